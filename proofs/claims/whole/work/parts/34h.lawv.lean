/-! A LAW IS READ: the reference's tests -/
theorem qW_lpout {σ β : Type} {b : σ → Option (σ ⊕ β)} {s : σ} {P : β → Prop} (h : qW (qlp b s) P) : qW (b s) (Sum.elim (fun s2 => qW (qlp b s2) P) P) := by
  obtain ⟨a, e, p⟩ := h
  rw [qlp_eq] at e
  cases q : b s with
  | none => rw [q] at e; cases e
  | some x =>
    rw [q] at e
    cases x with
    | inl s2 => exact ⟨.inl s2, rfl, a, e, p⟩
    | inr r =>
      have := Option.some.inj e
      subst this
      exact ⟨.inr r, rfl, p⟩
/-- a fault, and a place that may lie one behind the end -/
def LX (B : Nat → Nat) (n f : Nat) (h : qa_M) : Prop := TpR B n h ∧ (∃ p, p ≤ n + 1 ∧ h.1 119 21 = nn p) ∧ h.1 119 22 = nn f ∧ erB n f
theorem LF.x {B : Nat → Nat} {n f : Nat} {h : qa_M} (r : LF B n f h) : LX B n f h := by
  obtain ⟨⟨t, ⟨p, hp, e⟩, e2⟩, er, _⟩ := r
  exact ⟨t, ⟨p, by omega, e⟩, e2, er⟩
theorem LX.n0 {B : Nat → Nat} {n f : Nat} {h : qa_M} (r : LX B n f h) : ¬ h.1 119 22 = 0 := by
  obtain ⟨t, _, e, ⟨h1, h2⟩⟩ := r
  have := t.2.1
  rw [e, show (0 : Int32) = nn 0 from rfl, nn_eq (by omega) (by omega)]
  omega
def TQ (x : Int32) (h : qa_M) (Q : qa_M → Prop) : Prop := qW (f_X12_test_b9_loop x 1 h) Q
theorem TQ_F {B : Nat → Nat} {n f : Nat} {h : qa_M} {x y : Int32} (r : LX B n f h) : f_X12_test_b9_loop x y h = some h := by
  unfold f_X12_test_b9_loop
  refine qlp_out ?_
  show f_X12_test_b9 x y h = _
  unfold f_X12_test_b9
  by_cases c : y = 0
  · rw [if_pos c, qup_s]
  · rw [if_neg c, if_neg r.n0, qup_s]
def tpI : List Nat → Int32
  | [] => -1
  | t :: _ => nn t
theorem r_top {k : Nat} {B : Nat → Nat} {n p : Nat} {E : Cd} {c : Nat} {O : List Nat} {h : qa_M} (r : LR2 k B n p E c O h) (hO : O.length ≤ 402) : m_X12_top h = some (tpI O, h) := by
  obtain ⟨s1, s2, s3⟩ := r.2.2.2.2.2.2
  unfold m_X12_top
  rw [s1]
  cases O with
  | nil => rw [if_pos (by rfl)]; rfl
  | cons t O =>
    rw [List.length_cons] at hO ⊢
    rw [if_neg (fun q => by rw [show (0 : Int32) = nn 0 from rfl, nn_eq (by omega) (by omega)] at q; omega), nn_sub1 (by omega), Nat.add_sub_cancel, qck_nn (by omega) (by omega), nn_cl (by omega), s2.1]
    rfl
/-- nothing to answer -/
theorem r_ans0 {k : Nat} {B : Nat → Nat} {n p : Nat} {E : Cd} {c : Nat} {O : List Nat} {h : qa_M} {x : Int32} (r : LR2 k B n p E c O h) (hO : O.length ≤ 402) (hx : ¬ tpI O = x) : m_X12_answers x h = some h := by
  unfold m_X12_answers f_X12_answers_b0_loop
  refine qlp_out ?_
  show f_X12_answers_b0 x h = _
  unfold f_X12_answers_b0
  rw [r_top r hO, qbn_s, if_neg hx, qup_s]
/-- one to answer -/
theorem r_ans1 {k : Nat} {B : Nat → Nat} {n p : Nat} {E : Cd} {c t : Nat} {O : List Nat} {h : qa_M} (hk : k < 4) (r : LR2 k B n p E c (t :: O) h) (hO : O.length < 402) (hl : E.length ≤ 299) (ht : t = 9 ∨ t = 10 ∨ t = 11) : ∃ g, m_X12_answers (nn t) h = m_X12_answers (nn t) g ∧ LR2 k B n p (E ++ [(t, 0)]) c O g := by
  obtain ⟨g1, e1, r1⟩ := r_entry (x := t) (v := 0) hk r hl
  have f0 := r.2.2.1
  obtain ⟨s1, s2, s3⟩ := r1.2.2.2.2.2.2
  have mk : ∀ g2 v, g2 = qw_I (qw_I g1 119 28 (nn O.length)) 119 26 v → v = nn (dpt O) → LR2 k B n p (E ++ [(t, 0)]) c O g2 := by
    intro g2 v hg hv
    have f2 : qfr [(119, 29), (119, 27)] g1 g2 := by rw [hg]; exact qfr_Ik rfl (by simp) (qfr_Ik rfl (by simp) qfr_rf)
    obtain ⟨t1, e, f0, m, hc, h7, _⟩ := r1
    refine ⟨TpR_fr t1 f2 rfl (fun j => rfl), by rw [(f2.1 119 21 rfl).1]; exact e, by rw [(f2.1 119 22 rfl).1]; exact f0, RM_fr m f2 rfl rfl (fun b j h1 h2 => by unfold inW; simp; omega), by rw [(f2.1 119 27 rfl).1]; exact hc, by rw [(f2.1 119 29 rfl).1]; exact h7, ?_, ?_, ?_⟩
    · rw [hg, wI_ne (by omega), wI_at]
    · exact stk_up s2.2 (fun j hj => (f2.1 148 j rfl).1)
    · rw [hg, wI_at, hv]
  rw [List.length_cons] at s1
  have step : f_X12_answers_b0 (nn t) h = f_X12_answers_b47 (nn t) ((qw_I g1 119 28 (nn O.length)).1 119 26) (if t = 9 then 1 else 0) (qw_I g1 119 28 (nn O.length)) := by
    unfold f_X12_answers_b0
    rw [r_top r (by rw [List.length_cons]; omega), qbn_s, show tpI (t :: O) = nn t from rfl, if_pos rfl, if_pos f0, show m_X12_entry (nn t) 0 h = some g1 from e1, qbv_s, qbd_e, s1, nn_sub1 (by omega), Nat.add_sub_cancel]
    by_cases c9 : t = 9
    · rw [if_pos (by rw [c9]; rfl), if_pos c9]
    · rw [if_neg (fun q => by rw [show (9 : Int32) = nn 9 from rfl, nn_eq (by omega) (by omega)] at q; exact c9 q), if_neg c9]
  unfold f_X12_answers_b47 at step
  rw [qbd_e, wI_ne (by omega), s3] at step
  refine ⟨qw_I (qw_I g1 119 28 (nn O.length)) 119 26 (nn (dpt (t :: O)) - if t = 9 then 1 else 0), ?_, mk _ _ rfl ?_⟩
  · unfold m_X12_answers f_X12_answers_b0_loop
    exact qlp_in step
  · by_cases c9 : t = 9
    · subst c9
      show nn (dpt O + 1) - 1 = _
      rw [nn_sub1 (by omega), Nat.add_sub_cancel]
    · rw [if_neg c9]
      show nn (dpt O + (if t = 9 ∨ t = 12 then 1 else 0)) - nn 0 = _
      rw [if_neg (by omega), nn_sub (by omega)]
      rfl
/-- a not that was answered -/
theorem TQ_not {k : Nat} {B : Nat → Nat} {n p : Nat} {E : Cd} {c : Nat} {O : List Nat} {h : qa_M} {Q : qa_M → Prop} (hk : k < 4) (r : LR2 k B n p E c (9 :: O) h) (hO : O.length < 402) (hl : E.length ≤ 299) (hQ : ∀ g, LR2 k B n p (E ++ [(9, 0)]) c O g → TQ 0 g Q) : TQ 0 h Q := by
  obtain ⟨g, e, rg⟩ := r_ans1 hk r hO hl (.inl rfl)
  have q := hQ g rg
  unfold TQ f_X12_test_b9_loop at q ⊢
  have be : f_X12_test_b9 0 1 h = f_X12_test_b9 0 1 g := by
    unfold f_X12_test_b9
    have n10 : ¬ ((1 : Int32) = 0) := by decide
    have z00 : (0 : Int32) = 0 := rfl
    rw [if_neg n10, if_pos r.2.2.1, if_pos z00, show m_X12_answers 9 h = m_X12_answers 9 g from e, if_neg n10, if_pos rg.2.2.1, if_pos z00]
  refine qW_lpin ?_
  have q := qW_lpout q
  show qW (f_X12_test_b9 0 1 h) _
  rw [be]
  exact q
/-- what stands open is put on -/
theorem r_push {k : Nat} {B : Nat → Nat} {n p : Nat} {E : Cd} {c t : Nat} {O : List Nat} {h : qa_M} (r : LR2 k B n p E c O h) (hO : O.length < 402) (ht : t = 9 ∨ t = 10 ∨ t = 11 ∨ t = 12) (hp : p ≤ n) : qW (m_X12_opens (nn t) h) (fun g => if (t = 9 ∨ t = 12) ∧ dpt O = 10 then LF B n (ER p 2) g ∧ g.1 119 21 = nn p else LR2 k B n p E c (t :: O) g) := by
  have r0 := r
  obtain ⟨tt, e, f0, m, hc, h7, s1, s2, s3⟩ := r
  have hd : dpt O ≤ O.length := by
    clear r0 s1 s2 s3 hO
    induction O with
    | nil => exact Nat.le_refl _
    | cons x O ih =>
      show dpt O + (if x = 9 ∨ x = 12 then 1 else 0) ≤ O.length + 1
      by_cases q : x = 9 ∨ x = 12
      · rw [if_pos q]; omega
      · rw [if_neg q]; omega
  unfold m_X12_opens
  by_cases c9 : t = 9 ∨ t = 12
  · have b12 : qW (f_X12_opens_b12 (nn t) h) (fun g => if (t = 9 ∨ t = 12) ∧ dpt O = 10 then LF B n (ER p 2) g ∧ g.1 119 21 = nn p else LR2 k B n p E c (t :: O) g) := by
      unfold f_X12_opens_b12 f_X12_opens_b30 f_X12_opens_b40
      rw [s3]
      by_cases c10 : dpt O = 10
      · obtain ⟨a1, a2⟩ := LF_new (q := p) (x := 2) r0 hp hp (by omega)
        rw [if_pos (by rw [c10]; rfl), e, show (2 : Int32) = nn 2 from rfl, a1, qbv_s, qbd_e, wI_ne (by omega), wI_ne (by omega), s1, qck_nn (by omega) (by omega), qbd_e, qbd_e, qW_some, if_pos ⟨c9, c10⟩]
        refine ⟨LF_keep a2 (W := [(119, 27), (119, 29), (148, 0)]) (qfr_Ik rfl (by simp) (qfr_I0 rfl (by simp) (qfr_Ik rfl (by simp) qfr_rf))) rfl rfl rfl (fun j => rfl) rfl, ?_⟩
        rw [wI_ne (by omega), wI_ne (by omega), wI_ne (by omega), wI_ne (by omega)]
        exact e
      · rw [if_neg (fun q => by rw [show (10 : Int32) = nn 10 from rfl, nn_eq (by omega) (by omega)] at q; exact c10 q), nn_add1, qbd_e, wI_ne (by omega), s1, qck_nn (by omega) (by omega), qbd_e, qbd_e, qW_some, if_neg (fun q => c10 q.2), nn_cl (by omega), wI_ne (by omega), wI_ne (by omega), s1, nn_add1]
        have f2 : qfr [(119, 27), (119, 29), (148, 0)] h (qw_I (qw_I (qw_I h 119 26 (nn (dpt O + 1))) 148 O.length (nn t)) 119 28 (nn (O.length + 1))) := qfr_Ik rfl (by simp) (qfr_I0 rfl (by simp) (qfr_Ik rfl (by simp) qfr_rf))
        refine ⟨TpR_fr tt f2 rfl (fun j => rfl), by rw [(f2.1 119 21 rfl).1]; exact e, by rw [(f2.1 119 22 rfl).1]; exact f0, RM_fr m f2 rfl rfl (fun b j h1 h2 => by unfold inW; simp; omega), by rw [(f2.1 119 27 rfl).1]; exact hc, by rw [(f2.1 119 29 rfl).1]; exact h7, ?_, ⟨?_, ?_⟩, ?_⟩
        · rw [wI_at]; rfl
        · rw [wI_ne (by omega), wI_at]
        · exact stk_up s2 (fun j hj => by rw [wI_ne (by omega), wI_ne (by omega), wI_ne (by omega)])
        · rw [wI_ne (by omega), wI_ne (by omega), wI_at]
          show _ = nn (dpt O + (if t = 9 ∨ t = 12 then 1 else 0))
          rw [if_pos c9]
    rcases c9 with c9 | c9
    · rw [if_pos (by rw [c9]; rfl)]
      exact b12
    · rw [if_neg (by rw [c9]; decide), if_pos (by rw [c9]; rfl)]
      exact b12
  · rw [if_neg (fun q => by rw [show (9 : Int32) = nn 9 from rfl, nn_eq (by omega) (by omega)] at q; omega), if_neg (fun q => by rw [show (12 : Int32) = nn 12 from rfl, nn_eq (by omega) (by omega)] at q; omega)]
    unfold f_X12_opens_b40
    rw [s1, qck_nn (by omega) (by omega), qbd_e, qbd_e, qW_some, if_neg (fun q => c9 q.1), nn_cl (by omega), wI_ne (by omega), s1, nn_add1]
    have f2 : qfr [(119, 29), (148, 0)] h (qw_I (qw_I h 148 O.length (nn t)) 119 28 (nn (O.length + 1))) := qfr_Ik rfl (by simp) (qfr_I0 rfl (by simp) qfr_rf)
    refine ⟨TpR_fr tt f2 rfl (fun j => rfl), by rw [(f2.1 119 21 rfl).1]; exact e, by rw [(f2.1 119 22 rfl).1]; exact f0, RM_fr m f2 rfl rfl (fun b j h1 h2 => by unfold inW; simp; omega), by rw [(f2.1 119 27 rfl).1]; exact hc, by rw [(f2.1 119 29 rfl).1]; exact h7, ?_, ⟨?_, ?_⟩, ?_⟩
    · rw [wI_at]; rfl
    · rw [wI_ne (by omega), wI_at]
    · exact stk_up s2 (fun j hj => by rw [wI_ne (by omega), wI_ne (by omega)])
    · rw [wI_ne (by omega), wI_ne (by omega), s3]
      show _ = nn (dpt O + (if t = 9 ∨ t = 12 then 1 else 0))
      rw [if_neg c9]
      rfl
def topB (O : List Nat) : Prop := O = [] ∨ ∃ O2, O = 12 :: O2
theorem topB_I {O : List Nat} (h : topB O) : ¬ tpI O = 9 ∧ ¬ tpI O = 10 ∧ ¬ tpI O = 11 := by
  rcases h with rfl | ⟨O2, rfl⟩
  · exact ⟨by decide, by decide, by decide⟩
  · exact ⟨by show ¬ nn 12 = 9; decide, by show ¬ nn 12 = 10; decide, by show ¬ nn 12 = 11; decide⟩
/-- blanks where there are none -/
theorem r_blk0 {k : Nat} {B : Nat → Nat} {n p : Nat} {E : Cd} {c : Nat} {O : List Nat} {h : qa_M} (r : LR2 k B n p E c O h) (hp : p ≤ n) (hs : isS B n p = false) : m_X12_blanks h = some h := by
  have h400 := r.1.2.1
  unfold m_X12_blanks f_X12_blanks_b0_loop
  refine qlp_out ?_
  show f_X12_blanks_b0 h = _
  unfold f_X12_blanks_b0
  rw [r_sign r.1 r.2.1 (by omega), qbn_s, if_neg (fun q => by
    have q := (sgn_eq (c := 32) (fun q => (r.1.2.2 _ q).1) (by omega)).mp q
    unfold isS at hs
    rw [decide_eq_true q.1, decide_eq_true q.2] at hs
    cases hs), qup_s]
/-- the end of a test: where its bracket closes, or all of it ends -/
noncomputable def MID (h : qa_M) : Option ((Int32 × Int32 × qa_M) ⊕ qa_M) := qbn (m_X12_top h) (fun (c138 : Int32) (h138 : qa_M) =>
       if c138 = (12 : Int32) then (
        qbn (m_X12_sign h138) (fun (c147 : Int32) (h147 : qa_M) =>
        if c147 = (93 : Int32) then (
         f_X12_test_b164 0 1 h147)
        else (
         qbv (m_X12_fails (0 : Int32) (h147.1 119 21) h147) (fun h161 : qa_M =>
         f_X12_test_b164 0 1 h161))))
       else (
        qbd (0 : Int32) (fun v198 : Int32 =>
        f_X12_test_b199 0 v198 h138)))
theorem TQ_mid {k : Nat} {B : Nat → Nat} {n p : Nat} {E : Cd} {c : Nat} {O : List Nat} {h : qa_M} (r : LR2 k B n p E c O h) (hp : p ≤ n) (hs : isS B n p = false) (w1 : wis B n p 17 = false) (w2 : wis B n p 18 = false) (hO : O.length ≤ 402) (ht : topB O) : f_X12_test_b9 0 1 h = MID h := by
  obtain ⟨t9, t10, t11⟩ := topB_I ht
  unfold f_X12_test_b9 MID
  rw [if_neg (by decide), if_pos r.2.2.1, if_pos rfl, r_ans0 r hO t9, qbv_s, r_blk0 r hp hs, qbv_s, r_stood r.1 r.2.1 hp (by omega), qbn_s, qbd_e, r_stood r.1 r.2.1 hp (by omega), qbn_s, qbd_e, r_ans0 r hO t10, qbv_s, w1, w2, if_pos (by rfl), if_pos (by rfl), r_ans0 r hO t11, qbv_s]
def FRC (k : Nat) (B : Nat → Nat) (n : Nat) (F : Bool → Nat → Nat → Cd → Nat → PS) (b : Bool) (d : Nat) : Prop := ∀ p E c U m O h (Q : qa_M → Prop), GI n p E c U m → LR2 k B n p E c O h → dpt O = d → O.length ≤ p → (b = true → topB O) → (∀ e g, F b d p E c = .inl e → LX B n e g → Q g) → (∀ r g, F b d p E c = .inr r → LR2 k B n r.1 r.2.1 r.2.2 O g → TQ 0 g Q) → TQ 1 h Q
theorem TQ_1 {h : qa_M} {Q : qa_M → Prop} (f0 : h.1 119 22 = 0) (hq : qW (m_X12_fact h) (fun z => if z.1 = 0 then TQ 1 z.2 Q else TQ 0 z.2 Q)) : TQ 1 h Q := by
  unfold TQ f_X12_test_b9_loop
  refine qW_lpin ?_
  show qW (f_X12_test_b9 1 1 h) _
  unfold f_X12_test_b9
  rw [if_neg (by decide), if_pos f0, if_neg (by decide), qW_bn]
  refine qW_mono hq ?_
  rintro ⟨x, g⟩ hz
  unfold f_X12_test_b36
  by_cases c : x = 0
  · have hz : TQ 1 g Q := by
      have := hz
      rw [if_pos c] at this
      exact this
    show qW (if x = 0 then _ else _) _
    rw [if_pos c, qbd_e, qW_some]
    exact hz
  · have hz : TQ 0 g Q := by
      have := hz
      rw [if_neg c] at this
      exact this
    show qW (if x = 0 then _ else _) _
    rw [if_neg c, qbd_e, qW_some]
    exact hz
theorem pRec_skip {B : Nat → Nat} {n f d p c m : Nat} {E : Cd} {U : List Bool} {r : Nat × Cd × Nat} (g : GI n p E c U m) (h : pRec B n f true d p E c = .inr r) : isS B n r.1 = false ∧ wis B n r.1 17 = false ∧ wis B n r.1 18 = false := by
  cases f with
  | zero => cases h
  | succ f =>
    have h : pTsF B n (pRec B n f) d p E c = .inr r := h
    obtain ⟨a, h1, h⟩ := pBd_r h
    have g1 := pRec_ok f _ _ _ _ _ _ _ _ g h1
    exact (pTl_ok (o := false) (T := U) (pRec_ok f) g1.1 h).2.2
theorem r_factGo {k : Nat} {B : Nat → Nat} {n d f : Nat} (hk : k < 4) (hd : d ≤ 10) (h1 : d < 10 → FRC k B n (pRec B n f) true (d + 1)) (h2 : d < 10 → FRC k B n (pRec B n f) false (d + 1)) : FRC k B n (fun _ d p E c => pFtF B n (pRec B n f) d p E c) false d := by
  intro p E c U m O h Q g r hdp hOl _ hQ0 hQ1
  have hp := g.2.2.2.2.2.1
  have h400 := g.2.2.2.2.2.2
  have hlen := g.len
  have hsk := sk_ge (B := B) (n := n) (p := p)
  have hskn := sk_le (B := B) hp
  refine TQ_1 r.2.2.1 ?_
  unfold m_X12_fact
  rw [qW_bv]
  refine qW_mono (r_blk r hp) ?_
  intro g1 r1
  rw [r_stood r1.1 r1.2.1 hskn (by omega), qbn_s]
  dsimp only at hQ0 hQ1
  unfold pFtF at hQ0 hQ1
  by_cases c1 : wis B n (sk B n p) 2 = true
  · have hl := wis_le hskn c1
    rw [show (wrd 2).length = 3 from rfl] at hl
    rw [if_pos c1] at hQ0 hQ1
    rw [c1, if_neg (by decide), qW_bv]
    refine qW_mono (r_push (t := 9) r1 (by omega) (.inl rfl) hskn) ?_
    intro g2 hg2
    by_cases c10 : 10 ≤ d
    · rw [if_pos c10] at hQ0
      rw [if_pos ⟨.inl rfl, by omega⟩] at hg2
      rw [hg2.2, show (3 : Int32) = nn 3 from rfl, nn_add, qbd_e, qW_some]
      have r3 := LF_p (g := qw_I g2 119 21 (nn (sk B n p + 3))) hg2.1 (qfr_Ik rfl (by simp) qfr_rf) wI_at hl
      show if (0 : Int32) = 0 then _ else _
      rw [if_pos rfl]
      unfold TQ
      rw [TQ_F r3.x, qW_some]
      exact hQ0 _ _ rfl r3.x
    · rw [if_neg c10] at hQ0 hQ1
      rw [if_neg (fun q => by omega)] at hg2
      rw [hg2.2.1, show (3 : Int32) = nn 3 from rfl, nn_add, qbd_e, qW_some]
      have r3 := LR2_p (g := qw_I g2 119 21 (nn (sk B n p + 3))) hg2 (qfr_Ik rfl (by simp) qfr_rf) wI_at
      show if (0 : Int32) = 0 then _ else _
      rw [if_pos rfl]
      have g0 : GI n (sk B n p + 3) E c U (m + 1) := by
        obtain ⟨x1, x2, x3, x4, x5, x6, x7⟩ := g
        exact ⟨x1, x2, x3, by omega, x5, by omega, x7⟩
      refine h2 (by omega) _ _ _ _ _ _ _ _ g0 r3 (by show dpt O + (if (9 : Nat) = 9 ∨ (9 : Nat) = 12 then 1 else 0) = d + 1; rw [if_pos (.inl rfl), hdp]) (by rw [List.length_cons]; omega) (fun q => by cases q) ?_ ?_
      · intro e g4 q lf
        exact hQ0 e g4 (by rw [q]; rfl) lf
      · intro t g4 q r4
        have gt := (pRec_ok f _ _ _ _ _ _ _ _ g0 q).1
        have hlt := gt.len
        refine TQ_not hk r4 (by omega) (by omega) ?_
        intro g5 r5
        exact hQ1 (t.1, t.2.1 ++ [(9, 0)], t.2.2) g5 (by rw [q]; rfl) r5
  · rw [if_neg c1] at hQ0 hQ1
    have c1' : wis B n (sk B n p) 2 = false := by simpa using c1
    rw [c1', if_pos (by decide), r_sign r1.1 r1.2.1 (by omega), qbn_s]
    have hB : sk B n p < n → B (sk B n p) < 256 := fun q => (r1.1.2.2 _ q).1
    by_cases c2 : sgI B n (sk B n p) 91 = true
    · have hl := sgI_lt c2
      rw [if_pos c2] at hQ0 hQ1
      rw [if_pos (by exact (sgn_sg (c := 91) hB (by omega)).mpr c2), qW_bv]
      refine qW_mono (r_push (t := 12) r1 (by omega) (.inr (.inr (.inr rfl))) hskn) ?_
      intro g2 hg2
      by_cases c10 : 10 ≤ d
      · rw [if_pos c10] at hQ0
        rw [if_pos ⟨.inr rfl, by omega⟩] at hg2
        rw [hg2.2, nn_add1, qbd_e, qW_some]
        have r3 := LF_p (g := qw_I g2 119 21 (nn (sk B n p + 1))) hg2.1 (qfr_Ik rfl (by simp) qfr_rf) wI_at (by omega)
        show if (0 : Int32) = 0 then _ else _
        rw [if_pos rfl]
        unfold TQ
        rw [TQ_F r3.x, qW_some]
        exact hQ0 _ _ rfl r3.x
      · rw [if_neg c10] at hQ0 hQ1
        rw [if_neg (fun q => by omega)] at hg2
        rw [hg2.2.1, nn_add1, qbd_e, qW_some]
        have r3 := LR2_p (g := qw_I g2 119 21 (nn (sk B n p + 1))) hg2 (qfr_Ik rfl (by simp) qfr_rf) wI_at
        show if (0 : Int32) = 0 then _ else _
        rw [if_pos rfl]
        have g0 := g.up (p2 := sk B n p + 1) (by omega) (by omega)
        refine h1 (by omega) _ _ _ _ _ _ _ _ g0 r3 (by show dpt O + (if (12 : Nat) = 9 ∨ (12 : Nat) = 12 then 1 else 0) = d + 1; rw [if_pos (.inr rfl), hdp]) (by rw [List.length_cons]; omega) (fun _ => .inr ⟨O, rfl⟩) ?_ ?_
        · intro e g4 q lf
          exact hQ0 e g4 (by rw [q]; rfl) lf
        · intro t g4 q r4
          have gt := (pRec_ok f _ _ _ _ _ _ _ _ g0 q).1
          have htn := gt.2.2.2.2.2.1
          obtain ⟨k1, k2, k3⟩ := pRec_skip g0 q
          have hst : sk B n t.1 = t.1 := sk_id k1
          rw [q] at hQ0 hQ1
          have hQ0 : ∀ e g, (if sgI B n (sk B n t.1) 93 then .inr (sk B n t.1 + 1, t.2.1, t.2.2) else .inl (ER (sk B n t.1) 0)) = (.inl e : PS) → LX B n e g → Q g := hQ0
          have hQ1 : ∀ r g, (if sgI B n (sk B n t.1) 93 then .inr (sk B n t.1 + 1, t.2.1, t.2.2) else .inl (ER (sk B n t.1) 0)) = (.inr r : PS) → LR2 k B n r.1 r.2.1 r.2.2 O g → TQ 0 g Q := hQ1
          rw [hst] at hQ0 hQ1
          unfold TQ f_X12_test_b9_loop
          refine qW_lpin ?_
          show qW (f_X12_test_b9 0 1 g4) _
          rw [TQ_mid r4 htn k1 k2 k3 (by rw [List.length_cons]; omega) (.inr ⟨O, rfl⟩)]
          unfold MID
          rw [r_top r4 (by rw [List.length_cons]; omega), qbn_s, show tpI (12 :: O) = 12 from rfl, if_pos rfl, r_sign r4.1 r4.2.1 (by omega), qbn_s]
          have hBt : t.1 < n → B t.1 < 256 := fun q => (r4.1.2.2 _ q).1
          have pop : ∀ g5, LR2 k B n t.1 t.2.1 t.2.2 (12 :: O) g5 → t.1 + 1 ≤ n → ∃ g6, f_X12_test_b164 0 1 g5 = some (.inl (0, 1, g6)) ∧ LR2 k B n (t.1 + 1) t.2.1 t.2.2 O g6 := by
            intro g5 r5 hle
            obtain ⟨tt, e, f0, mm, hc, h7, s1, s2, s3⟩ := r5
            rw [List.length_cons] at s1
            have s3 : g5.1 119 26 = nn (dpt O + 1) := s3
            unfold f_X12_test_b164 f_X12_test_b199
            rw [qbd_e, qbd_e, qbd_e, e, nn_add1, wI_ne (by omega), s1, nn_sub1 (by omega), Nat.add_sub_cancel, wI_ne (by omega), wI_ne (by omega), s3, nn_sub1 (by omega), Nat.add_sub_cancel]
            have f2 : qfr [(119, 22), (119, 29), (119, 27)] g5 (qw_I (qw_I (qw_I g5 119 21 (nn (t.1 + 1))) 119 28 (nn O.length)) 119 26 (nn (dpt O))) := qfr_Ik rfl (by simp) (qfr_Ik rfl (by simp) (qfr_Ik rfl (by simp) qfr_rf))
            refine ⟨_, rfl, TpR_fr tt f2 rfl (fun j => rfl), by rw [wI_ne (by omega), wI_ne (by omega), wI_at], by rw [(f2.1 119 22 rfl).1]; exact f0, RM_fr mm f2 rfl rfl (fun b j h1 h2 => by unfold inW; simp; omega), by rw [(f2.1 119 27 rfl).1]; exact hc, by rw [(f2.1 119 29 rfl).1]; exact h7, by rw [wI_ne (by omega), wI_at], stk_up s2.2 (fun j hj => (f2.1 148 j rfl).1), wI_at⟩
          by_cases c3 : sgI B n t.1 93 = true
          · rw [if_pos c3] at hQ1
            rw [if_pos (by exact (sgn_sg (c := 93) hBt (by omega)).mpr c3)]
            obtain ⟨g6, e6, r6⟩ := pop g4 r4 (by have := sgI_lt c3; omega)
            rw [e6, qW_some]
            exact hQ1 _ g6 rfl r6
          · rw [if_neg c3] at hQ0
            rw [if_neg (fun q => by exact c3 ((sgn_sg (c := 93) hBt (by omega)).mp q))]
            obtain ⟨a1, a2⟩ := LF_new (q := t.1) (x := 0) r4 htn htn (by omega)
            rw [r4.2.1, show (0 : Int32) = nn 0 from rfl, a1, qbv_s]
            unfold f_X12_test_b164 f_X12_test_b199
            rw [qbd_e, qbd_e, qbd_e, qW_some]
            obtain ⟨g6, hg6⟩ : ∃ g6, g6 = qw_I (qw_I (qw_I (qw_I g4 119 22 (nn (ER t.1 0))) 119 21 ((qw_I g4 119 22 (nn (ER t.1 0))).1 119 21 + 1)) 119 28 ((qw_I (qw_I g4 119 22 (nn (ER t.1 0))) 119 21 ((qw_I g4 119 22 (nn (ER t.1 0))).1 119 21 + 1)).1 119 28 - 1)) 119 26 ((qw_I (qw_I (qw_I g4 119 22 (nn (ER t.1 0))) 119 21 ((qw_I g4 119 22 (nn (ER t.1 0))).1 119 21 + 1)) 119 28 ((qw_I (qw_I g4 119 22 (nn (ER t.1 0))) 119 21 ((qw_I g4 119 22 (nn (ER t.1 0))).1 119 21 + 1)).1 119 28 - 1)).1 119 26 - 1) := ⟨_, rfl⟩
            have f6 : qfr [(119, 22), (119, 29), (119, 27)] (qw_I g4 119 22 (nn (ER t.1 0))) g6 := by rw [hg6]; exact qfr_Ik rfl (by simp) (qfr_Ik rfl (by simp) (qfr_Ik rfl (by simp) qfr_rf))
            have x6 : LX B n (ER t.1 0) g6 := by
              refine ⟨TpR_fr a2.1.1 f6 rfl (fun j => rfl), ⟨t.1 + 1, by omega, ?_⟩, by rw [(f6.1 119 22 rfl).1, wI_at], a2.2.1⟩
              rw [hg6, wI_ne (by omega), wI_ne (by omega), wI_at, wI_ne (by omega), r4.2.1, nn_add1]
            have e6 : f_X12_test_b9_loop 0 1 g6 = some g6 := TQ_F x6
            have : qW (f_X12_test_b9_loop 0 1 g6) Q := by rw [e6, qW_some]; exact hQ0 _ g6 rfl x6
            rw [hg6] at this
            exact this
    · have c2' : sgI B n (sk B n p) 91 = false := by simpa using c2
      rw [if_neg c2] at hQ0 hQ1
      rw [if_neg (fun q => by exact c2 ((sgn_sg (c := 91) hB (by omega)).mp q)), qW_bv]
      refine qW_mono (r_compared hk (g.up hsk hskn) r1) ?_
      intro g2 hz
      rw [qW_some]
      show if (1 : Int32) = 0 then _ else TQ 0 g2 Q
      rw [if_neg (by decide)]
      cases q : pCmp B n (sk B n p) E c with
      | inl e =>
        rw [q] at hz
        have hz : LF B n e g2 := hz
        unfold TQ
        rw [TQ_F hz.x, qW_some]
        exact hQ0 e g2 q hz.x
      | inr t =>
        rw [q] at hz
        exact hQ1 t g2 q hz
