/-! A LAW IS READ: the reference's tests, whole -/
def fl (b : Bool) (t : Nat) : List Nat := if b then [t] else []
def flE (b : Bool) (t : Nat) : Cd := if b then [(t, 0)] else []
theorem r_ansO {k : Nat} {B : Nat → Nat} {n p : Nat} {E : Cd} {c t : Nat} {O : List Nat} {h : qa_M} {b : Bool} (hk : k < 4) (r : LR2 k B n p E c (fl b t ++ O) h) (hO : O.length < 402) (hl : E.length ≤ 299) (ht : t = 10 ∨ t = 11) (hO2 : ¬ tpI O = nn t) : ∃ g, m_X12_answers (nn t) h = some g ∧ LR2 k B n p (E ++ flE b t) c O g := by
  cases b with
  | false =>
    refine ⟨h, r_ans0 r (by show O.length ≤ 402; omega) hO2, ?_⟩
    show LR2 k B n p (E ++ []) c O h
    rw [List.append_nil]
    exact r
  | true =>
    obtain ⟨g, e, rg⟩ := r_ans1 (O := O) hk r hO hl (by omega)
    exact ⟨g, by rw [e]; exact r_ans0 (O := O) rg (by omega) hO2, rg⟩
theorem tp_fl {b : Bool} {t : Nat} {O : List Nat} {x : Int32} (h1 : ¬ nn t = x) (h2 : ¬ tpI O = x) : ¬ tpI (fl b t ++ O) = x := by
  cases b with
  | false => exact h2
  | true => exact h1
theorem dpt_fl {b : Bool} {t : Nat} {O : List Nat} (h : t = 10 ∨ t = 11) : dpt (fl b t ++ O) = dpt O := by
  cases b with
  | false => rfl
  | true =>
    show dpt O + (if t = 9 ∨ t = 12 then 1 else 0) = _
    rw [if_neg (by omega)]
    rfl
theorem wis_ne {B : Nat → Nat} {n p : Nat} (h : wis B n p 17 = true) : wis B n p 18 = false := by
  cases q : wis B n p 18 with
  | false => rfl
  | true =>
    have a := mtc_len h
    have b := mtc_len q
    rw [show (wrd 17).length = 3 from rfl] at a
    rw [show (wrd 18).length = 2 from rfl] at b
    omega
theorem r_testGo {k : Nat} {B : Nat → Nat} {n d m : Nat} {T : List Bool} {O : List Nat} {Q : qa_M → Prop} {F : Bool → Nat → Nat → Cd → Nat → PS} (hk : k < 4) (hF : FOK n F) (h2 : FRC k B n F false d) (hdp : dpt O = d) (hT : topB O) : ∀ (fu p c : Nat) (a o : Bool) (E0 : Cd) (h : qa_M), n < p + fu → GI n p (E0 ++ flE a 10) c (oU o T) m → LR2 k B n p E0 c (fl a 10 ++ (fl o 11 ++ O)) h → O.length ≤ p → (fl a 10 ++ (fl o 11 ++ O)).length ≤ p → (∀ e g, pTl B n F d fu o p (E0 ++ flE a 10) c = .inl e → LX B n e g → Q g) → (∀ r g, pTl B n F d fu o p (E0 ++ flE a 10) c = .inr r → LR2 k B n r.1 r.2.1 r.2.2 O g → TQ 0 g Q) → TQ 0 h Q
  | 0, p, c, a, o, E0, h, hf, g, _, _, _, _, _ => by have := g.2.2.2.2.2.1; omega
  | fu + 1, p, c, a, o, E0, h, hf, g, r, hOl, hSl, hQ0, hQ1 => by
    have hp := g.2.2.2.2.2.1
    have h400 := g.2.2.2.2.2.2
    have hlen := g.len
    have hlen0 : E0.length ≤ 253 := by rw [List.length_append] at hlen; omega
    have hsk := sk_ge (B := B) (n := n) (p := p)
    have hskn := sk_le (B := B) hp
    obtain ⟨t9, t10, t11⟩ := topB_I hT
    have hS2 : (fl o 11 ++ O).length ≤ p := by rw [List.length_append] at hSl; omega
    have top9 : ¬ tpI (fl a 10 ++ (fl o 11 ++ O)) = 9 := tp_fl (by decide) (tp_fl (by decide) t9)
    have top10 : ¬ tpI (fl o 11 ++ O) = nn 10 := tp_fl (by decide) t10
    unfold TQ f_X12_test_b9_loop
    refine qW_lpin ?_
    show qW (f_X12_test_b9 0 1 h) _
    unfold f_X12_test_b9
    rw [if_neg (by decide), if_pos r.2.2.1, if_pos rfl, r_ans0 r (by omega) top9, qbv_s, qW_bv]
    refine qW_mono (r_blk r hp) ?_
    intro g1 r1
    obtain ⟨g2, e2, r2⟩ := r_ansO hk r1 (by omega) (by omega) (.inl rfl) top10
    rw [r_stood r1.1 r1.2.1 hskn (by omega), qbn_s, qbd_e, r_stood r1.1 r1.2.1 hskn (by omega), qbn_s, qbd_e, show m_X12_answers 10 g1 = some g2 from e2, qbv_s]
    obtain ⟨E, hE⟩ : ∃ E, E = E0 ++ flE a 10 := ⟨_, rfl⟩
    rw [← hE] at g r2 hlen hQ0 hQ1
    unfold pTl at hQ0 hQ1
    by_cases c1 : wis B n (sk B n p) 17 = true
    · have hl := wis_le hskn c1
      rw [show (wrd 17).length = 3 from rfl] at hl
      rw [if_pos c1] at hQ0 hQ1
      rw [c1, wis_ne c1, if_neg (by decide)]
      unfold f_X12_test_b82 f_X12_test_b93 f_X12_test_b105 f_X12_test_b122 f_X12_test_b199
      rw [if_pos (by rfl), if_neg (by decide), qW_bv]
      refine qW_mono (r_push (t := 10) r2 (by omega) (.inr (.inl rfl)) hskn) ?_
      intro g3 hg3
      rw [if_neg (fun q => by omega)] at hg3
      rw [if_neg (by decide), hg3.2.1, show (3 : Int32) = nn 3 from rfl, nn_add, qbd_e, qbd_e, qW_some]
      have r3 := LR2_p (g := qw_I g3 119 21 (nn (sk B n p + 3))) hg3 (qfr_Ik rfl (by simp) qfr_rf) wI_at
      have g0 := g.up (p2 := sk B n p + 3) (by omega) (by omega)
      refine h2 _ _ _ _ _ _ _ Q g0 r3 (by show dpt (fl o 11 ++ O) + (if (10 : Nat) = 9 ∨ (10 : Nat) = 12 then 1 else 0) = d; rw [if_neg (by omega), dpt_fl (.inr rfl)]; exact hdp) (by rw [List.length_cons]; omega) (fun q => by cases q) ?_ ?_
      · intro e g4 q lx
        exact hQ0 e g4 (by rw [q]; rfl) lx
      · intro t g4 q r4
        rw [q] at hQ0 hQ1
        obtain ⟨gt, hlt⟩ := hF _ _ _ _ _ _ _ _ g0 q
        refine r_testGo (T := T) (m := m) hk hF h2 hdp hT fu t.1 t.2.2 true o t.2.1 g4 (by omega) ?_ r4 (by omega) (by show (10 :: (fl o 11 ++ O)).length ≤ t.1; rw [List.length_cons]; omega) hQ0 hQ1
        exact GI.op (k := 10) gt (show tst (nn 10) (true :: oU o T) = some (oU o T) by cases o <;> rfl) (by omega) (by omega) (by omega) (by omega)
    · have c1' : wis B n (sk B n p) 17 = false := by simpa using c1
      rw [if_neg c1] at hQ0 hQ1
      obtain ⟨g3, e3, r3⟩ := r_ansO hk r2 (by omega) (by omega) (.inr rfl) t11
      have g3' := GI.orL g
      have hEo : E ++ flE o 11 = E ++ orL o := by cases o <;> rfl
      rw [hEo] at r3
      by_cases c2 : wis B n (sk B n p) 18 = true
      · have hl := wis_le hskn c2
        rw [show (wrd 18).length = 2 from rfl] at hl
        rw [if_pos c2] at hQ0 hQ1
        rw [c1', c2, if_pos (by rfl), if_neg (by decide)]
        unfold f_X12_test_b82 f_X12_test_b93 f_X12_test_b105 f_X12_test_b122 f_X12_test_b199
        rw [if_neg (by decide), show m_X12_answers 11 g2 = some g3 from e3, qbv_s, if_pos (by rfl), qW_bv]
        refine qW_mono (r_push (t := 11) r3 (by omega) (.inr (.inr (.inl rfl))) hskn) ?_
        intro g4 hg4
        rw [if_neg (fun q => by omega)] at hg4
        rw [if_pos (by rfl), hg4.2.1, show (2 : Int32) = nn 2 from rfl, nn_add, qbd_e, qbd_e, qW_some]
        have r4 := LR2_p (g := qw_I g4 119 21 (nn (sk B n p + 2))) hg4 (qfr_Ik rfl (by simp) qfr_rf) wI_at
        have g0 := g3'.up (p2 := sk B n p + 2) (by omega) (by omega)
        refine h2 _ _ _ _ _ _ _ Q g0 r4 (by show dpt O + (if (11 : Nat) = 9 ∨ (11 : Nat) = 12 then 1 else 0) = d; rw [if_neg (by omega)]; exact hdp) (by rw [List.length_cons]; omega) (fun q => by cases q) ?_ ?_
        · intro e g5 q lx
          exact hQ0 e g5 (by rw [q]; rfl) lx
        · intro t g5 q r5
          rw [q] at hQ0 hQ1
          obtain ⟨gt, hlt⟩ := hF _ _ _ _ _ _ _ _ g0 q
          have ex : t.2.1 ++ flE false 10 = t.2.1 := List.append_nil _
          refine r_testGo (T := T) (m := m) hk hF h2 hdp hT fu t.1 t.2.2 false true t.2.1 g5 (by omega) (by rw [ex]; exact gt) r5 (by omega) (by show (11 :: O).length ≤ t.1; rw [List.length_cons]; omega) (by rw [ex]; exact hQ0) (by rw [ex]; exact hQ1)
      · have c2' : wis B n (sk B n p) 18 = false := by simpa using c2
        rw [if_neg c2] at hQ1
        have tq := hQ1 _ g3 rfl r3
        unfold TQ f_X12_test_b9_loop at tq
        have tq := qW_lpout tq
        have tq : qW (f_X12_test_b9 0 1 g3) _ := tq
        rw [TQ_mid r3 hskn sk_end c1' c2' (by omega) hT] at tq
        rw [c1', c2', if_pos (by rfl), if_pos (by rfl), show m_X12_answers 11 g2 = some g3 from e3, qbv_s]
        exact tq
theorem r_rec {k : Nat} {B : Nat → Nat} {n : Nat} (hk : k < 4) : ∀ (f : Nat) (b : Bool) (d : Nat), d ≤ 10 → (if b then 2 else 1) + 2 * (10 - d) ≤ f → FRC k B n (pRec B n f) b d
  | 0, b, d, hd, hf => by cases b <;> simp at hf
  | f + 1, true, d, hd, hf => by
    have hf : 2 + 2 * (10 - d) ≤ f + 1 := hf
    intro p E c U m O h Q g r hdp hOl hT hQ0 hQ1
    have ih := r_rec (B := B) (n := n) hk f false d hd (by show 1 + 2 * (10 - d) ≤ f; omega)
    have hQ0 : ∀ e g, pTsF B n (pRec B n f) d p E c = .inl e → LX B n e g → Q g := hQ0
    have hQ1 : ∀ r g, pTsF B n (pRec B n f) d p E c = .inr r → LR2 k B n r.1 r.2.1 r.2.2 O g → TQ 0 g Q := hQ1
    unfold pTsF at hQ0 hQ1
    refine ih _ _ _ _ _ _ _ Q g r hdp hOl (fun q => by cases q) ?_ ?_
    · intro e g4 q lx
      exact hQ0 e g4 (by rw [q]; rfl) lx
    · intro t g4 q r4
      rw [q] at hQ0 hQ1
      obtain ⟨gt, hlt⟩ := pRec_ok f _ _ _ _ _ _ _ _ g q
      have h400 := g.2.2.2.2.2.2
      have ex : t.2.1 ++ flE false 10 = t.2.1 := List.append_nil _
      exact r_testGo (T := U) (m := m) hk (pRec_ok f) ih hdp (hT rfl) 400 t.1 t.2.2 false false t.2.1 g4 (by omega) (by rw [ex]; exact gt) r4 (by omega) (by show O.length ≤ t.1; omega) (by rw [ex]; exact hQ0) (by rw [ex]; exact hQ1)
  | f + 1, false, d, hd, hf => by
    have hf : 1 + 2 * (10 - d) ≤ f + 1 := hf
    intro p E c U m O h Q g r hdp hOl hT hQ0 hQ1
    exact r_factGo (f := f) hk hd (fun q => r_rec hk f true (d + 1) (by omega) (by show 2 + 2 * (10 - (d + 1)) ≤ f; omega)) (fun q => r_rec hk f false (d + 1) (by omega) (by show 1 + 2 * (10 - (d + 1)) ≤ f; omega)) p E c U m O h Q g r hdp hOl hT hQ0 hQ1
/-- the reference reads a test; what stood open does not count -/
def LR1 (k : Nat) (B : Nat → Nat) (n p : Nat) (E : Cd) (c : Nat) (h : qa_M) : Prop := TpR B n h ∧ h.1 119 21 = nn p ∧ h.1 119 22 = 0 ∧ RM k E h ∧ h.1 119 27 = nn c ∧ h.1 119 29 = 7 ∧ h.1 119 26 = 0
theorem r_test {k : Nat} {B : Nat → Nat} {n p c m : Nat} {E : Cd} {U : List Bool} {h : qa_M} (hk : k < 4) (g : GI n p E c U m) (r : LR1 k B n p E c h) : qW (m_X12_test h) (fun z => match pRec B n 31 true 0 p E c with
    | .inl e => LX B n e z
    | .inr r => LR1 k B n r.1 r.2.1 r.2.2 z) := by
  obtain ⟨t, e, f0, mm, hc, h7, h26⟩ := r
  unfold m_X12_test
  rw [qbd_e, qbd_e, qbd_e]
  have f1 : qfr [(119, 29)] h (qw_I h 119 28 0) := qfr_Ik rfl (by simp) qfr_rf
  have r1 : LR2 k B n p E c [] (qw_I h 119 28 0) := ⟨TpR_fr t f1 rfl (fun j => rfl), by rw [(f1.1 119 21 rfl).1]; exact e, by rw [(f1.1 119 22 rfl).1]; exact f0, RM_fr mm f1 rfl rfl (fun b j h1 h2 => by unfold inW; simp; omega), by rw [(f1.1 119 27 rfl).1]; exact hc, by rw [(f1.1 119 29 rfl).1]; exact h7, wI_at, trivial, by rw [wI_ne (by omega)]; exact h26⟩
  refine r_rec hk 31 true 0 (by omega) (by show 2 + 2 * (10 - 0) ≤ 31; omega) p E c U m [] _ _ g r1 rfl (Nat.zero_le _) (fun _ => .inl rfl) ?_ ?_
  · intro e g2 q lx
    rw [q]
    exact lx
  · intro u g2 q r2
    obtain ⟨k1, k2, k3⟩ := pRec_skip g q
    have gu := (pRec_ok 31 _ _ _ _ _ _ _ _ g q).1
    rw [q]
    unfold TQ f_X12_test_b9_loop
    refine qW_lpin ?_
    show qW (f_X12_test_b9 0 1 g2) _
    rw [TQ_mid r2 gu.2.2.2.2.2.1 k1 k2 k3 (by decide) (.inl rfl)]
    unfold MID f_X12_test_b199
    rw [r_top r2 (by decide), qbn_s, show tpI [] = -1 from rfl, if_neg (by decide), qbd_e, qW_some]
    refine qW_lpin ?_
    show qW (f_X12_test_b9 0 0 g2) _
    unfold f_X12_test_b9
    rw [if_pos rfl, qup_s, qW_some]
    obtain ⟨t, e, f0, mm, hc, h7, s1, s2, s3⟩ := r2
    exact ⟨t, e, f0, mm, hc, h7, s3⟩
