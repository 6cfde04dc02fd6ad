/-! A LAW IS READ: the class's sums and comparisons -/
def wI : Option Nat → Int32
  | none => 0
  | some k => cC (k, 0)
theorem wI_0 {w : Option Nat} (hw : wOK w) : (wI w = 0) ↔ w = none := by
  cases w with
  | none => exact ⟨fun _ => rfl, fun _ => rfl⟩
  | some k =>
    have := hw k rfl
    rcases this with rfl | rfl
    · exact ⟨fun q => absurd q (by decide), fun q => by cases q⟩
    · exact ⟨fun q => absurd q (by decide), fun q => by cases q⟩
theorem LC_sk {a : Nat} {B : Nat → Nat} {n p : Nat} {E : Cd} {c : Nat} {h : qa_M} (lc : LC a B n p E c h) : LC a B n (sk B n p) E c h := by
  obtain ⟨t, tk, r⟩ := lc
  exact ⟨t, by rw [sk_sk]; exact tk, r⟩
theorem k_b110 {a : Nat} {B : Nat → Nat} {n p : Nat} {E : Cd} {c m : Nat} {U : List Bool} {w : Option Nat} {h : qa_M} (hA : qLaw a) (g : GI n p E c U m) (hw : wOK w) (lc : LC a B n p E c h) : qW (f_X6_readSum_b110 (wI w) h) (LPc a B n (.inr (sk B n p, E ++ wl w, c))) := by
  have hl := g.len
  unfold f_X6_readSum_b110
  cases w with
  | none =>
    rw [if_pos (by rfl), qW_some]
    refine ⟨rfl, ?_⟩
    show LC a B n (sk B n p) (E ++ []) c h
    rw [List.append_nil]
    exact LC_sk lc
  | some k =>
    rw [if_neg (fun q => by rw [wI_0 hw] at q; cases q)]
    refine k_em (x := (k, 0)) hA lc (by omega) ?_
    intro g2 lc2
    rw [qW_some]
    exact ⟨rfl, LC_sk lc2⟩
theorem k_sumLoop {a : Nat} {B : Nat → Nat} {n m : Nat} {T : List Bool} (hA : qLaw a) : ∀ (f p c i : Nat) (w : Option Nat) (E : Cd) (h : qa_M), n < p + f → i < p → GI n p E c (wU w T) m → wOK w → LC a B n p E c h → qW (f_X6_readSum_b13_loop (wI w) (nn i) h) (LPc a B n (pSm B n f w p E c))
  | 0, p, c, i, w, E, h, hf, hi, g, hw, lc => by have := g.2.2.2.2.2.1; omega
  | f + 1, p, c, i, w, E, h, hf, hi, g, hw, lc => by
    have hp := g.2.2.2.2.2.1
    have h400 := g.2.2.2.2.2.2
    have hlen := g.len
    have hsk := sk_ge (B := B) (n := n) (p := p)
    have hskn := sk_le (B := B) hp
    have hB : sk B n p < n → B (sk B n p) < 256 := fun q => (lc.1.2.2 _ q).1
    unfold f_X6_readSum_b13_loop
    refine qW_lpin ?_
    show qW (f_X6_readSum_b13 (wI w) (nn i) h) _
    unfold f_X6_readSum_b13 pSm
    rw [if_neg (fun q => by rw [show (400 : Int32) = nn 400 from rfl, nn_le (by omega) (by omega)] at q; omega), k_signCode lc.2.1, qbn_s, qbd_e]
    -- * and /
    have mul : ∀ k (v : Int32), (k = 13 ∨ k = 14) → v = cC (k, 0) → tkE B n (sk B n p) = sk B n p + 1 → sk B n p < n → qW (f_X6_readSum_b51 (wI w) (nn i) v 0 h) (Sum.elim (fun s2 => qW (qlp (fun sz : Int32 × Int32 × qa_M => f_X6_readSum_b13 sz.1 sz.2.1 sz.2.2) s2) (LPc a B n (pBd (pVal B n (sk B n p + 1) E c) (fun r => pSm B n f w r.1 (r.2.1 ++ [(k, 0)]) r.2.2)))) (LPc a B n (pBd (pVal B n (sk B n p + 1) E c) (fun r => pSm B n f w r.1 (r.2.1 ++ [(k, 0)]) r.2.2)))) := by
      intro k v hk hv he hlt
      have g0 := g.up (p2 := sk B n p + 1) (by omega) (by omega)
      unfold f_X6_readSum_b51 f_X6_readSum_b70
      rw [qbd_e, if_pos rfl, qW_bv]
      refine qW_mono (LC_scan hA lc he hp) ?_
      intro g1 lc1
      rw [qW_bn]
      refine qW_mono (k_readValue hA g0 lc1) ?_
      rintro ⟨x, g2⟩ hz
      cases q : pVal B n (sk B n p + 1) E c with
      | inl e =>
        rw [q] at hz
        obtain ⟨z1, z2⟩ := hz
        have z1 : x = 0 := z1
        subst z1
        rw [if_pos rfl, qup_s, qW_some]
        exact ⟨rfl, z2⟩
      | inr r =>
        rw [q] at hz
        obtain ⟨z1, lc2⟩ := hz
        have z1 : x = 1 := z1
        subst z1
        dsimp only
        obtain ⟨g2', hlt2⟩ := (pVal_ok g0 q).1
        have hl2 := g2'.len
        rw [if_neg (by decide), if_pos rfl, hv]
        refine k_em (x := (k, 0)) hA lc2 (by omega) ?_
        intro g3 lc3
        unfold f_X6_readSum_b104
        rw [qbd_e, nn_add1, qW_some]
        refine k_sumLoop (T := T) (m := m) hA f r.1 r.2.2 (i + 1) w (r.2.1 ++ [(k, 0)]) g3 (by omega) (by omega) ?_ hw lc3
        exact GI.op g2' (show tst (nn k) (false :: wU w T) = some (wU w T) by rcases hk with rfl | rfl <;> cases w <;> rfl) (by omega) (by omega) (by omega) (by omega)
    -- + and -
    have add : ∀ k (v : Int32), (k = 2 ∨ k = 3) → v = cC (k, 0) → tkE B n (sk B n p) = sk B n p + 1 → sk B n p < n → qW (f_X6_readSum_b51 (wI w) (nn i) v 1 h) (Sum.elim (fun s2 => qW (qlp (fun sz : Int32 × Int32 × qa_M => f_X6_readSum_b13 sz.1 sz.2.1 sz.2.2) s2) (LPc a B n (pBd (pVal B n (sk B n p + 1) (E ++ wl w) c) (fun r => pSm B n f (some k) r.1 r.2.1 r.2.2)))) (LPc a B n (pBd (pVal B n (sk B n p + 1) (E ++ wl w) c) (fun r => pSm B n f (some k) r.1 r.2.1 r.2.2)))) := by
      intro k v hk hv he hlt
      have g0 := (GI.wl g hw).up (p2 := sk B n p + 1) (by omega) (by omega)
      have go : ∀ h2, LC a B n p (E ++ wl w) c h2 → qW (f_X6_readSum_b70 (wI w) (nn i) v 1 h2) (Sum.elim (fun s2 => qW (qlp (fun sz : Int32 × Int32 × qa_M => f_X6_readSum_b13 sz.1 sz.2.1 sz.2.2) s2) (LPc a B n (pBd (pVal B n (sk B n p + 1) (E ++ wl w) c) (fun r => pSm B n f (some k) r.1 r.2.1 r.2.2)))) (LPc a B n (pBd (pVal B n (sk B n p + 1) (E ++ wl w) c) (fun r => pSm B n f (some k) r.1 r.2.1 r.2.2)))) := by
        intro h2 lc2
        unfold f_X6_readSum_b70
        rw [qW_bv]
        refine qW_mono (LC_scan hA lc2 he hp) ?_
        intro g1 lc1
        rw [qW_bn]
        refine qW_mono (k_readValue hA g0 lc1) ?_
        rintro ⟨x, g2⟩ hz
        cases q : pVal B n (sk B n p + 1) (E ++ wl w) c with
        | inl e =>
          rw [q] at hz
          obtain ⟨z1, z2⟩ := hz
          have z1 : x = 0 := z1
          subst z1
          rw [if_pos rfl, qup_s, qW_some]
          exact ⟨rfl, z2⟩
        | inr r =>
          rw [q] at hz
          obtain ⟨z1, lc2⟩ := hz
          have z1 : x = 1 := z1
          subst z1
          dsimp only
          obtain ⟨g2', hlt2⟩ := (pVal_ok g0 q).1
          rw [if_neg (by decide), if_neg (by decide), qbd_e, hv]
          unfold f_X6_readSum_b104
          rw [qbd_e, nn_add1, qW_some]
          exact k_sumLoop hA f r.1 r.2.2 (i + 1) (some k) r.2.1 g2 (by omega) (by omega) g2' (fun j q => by have := Option.some.inj q; omega) lc2
      unfold f_X6_readSum_b51
      rw [qbd_e, if_neg (by decide)]
      cases w with
      | none =>
        rw [if_pos (by rfl)]
        refine go h ?_
        show LC a B n p (E ++ []) c h
        rw [List.append_nil]
        exact lc
      | some j =>
        rw [if_neg (fun q => by rw [wI_0 hw] at q; cases q)]
        refine k_em (x := (j, 0)) hA lc (by omega) ?_
        intro g2 lc2
        exact go g2 lc2
    by_cases c1 : sgI B n (sk B n p) 42 = true
    · obtain ⟨s1, s2⟩ := sc_ar c1 (by omega)
      rw [if_pos c1, s1, show scV (nn 42) = -13 from rfl, if_neg (by decide), if_pos (by decide), if_pos (by decide)]
      exact mul 13 _ (by omega) rfl s2 (sgI_lt c1)
    · rw [if_neg c1]
      by_cases c2 : sgI B n (sk B n p) 47 = true
      · obtain ⟨s1, s2⟩ := sc_ar c2 (by omega)
        rw [if_pos c2, s1, show scV (nn 47) = -14 from rfl, if_neg (by decide), if_pos (by decide), if_pos (by decide)]
        exact mul 14 _ (by omega) rfl s2 (sgI_lt c2)
      · rw [if_neg c2]
        by_cases c3 : sgI B n (sk B n p) 43 = true
        · obtain ⟨s1, s2⟩ := sc_ar c3 (by omega)
          rw [if_pos c3, s1, show scV (nn 43) = -11 from rfl, if_neg (by decide), if_pos (by decide), if_neg (by decide)]
          exact add 2 _ (by omega) rfl s2 (sgI_lt c3)
        · rw [if_neg c3]
          by_cases c4 : sgI B n (sk B n p) 45 = true
          · obtain ⟨s1, s2⟩ := sc_ar c4 (by omega)
            rw [if_pos c4, s1, show scV (nn 45) = -12 from rfl, if_neg (by decide), if_pos (by decide), if_neg (by decide)]
            exact add 3 _ (by omega) rfl s2 (sgI_lt c4)
          · rw [if_neg c4]
            obtain ⟨i1, i2, i3, i4, i5⟩ := sc_inv hB
            have fin := k_b110 hA g hw lc
            have hv : (-11 : Int32) < scI B n (sk B n p) ∨ (¬ (-11 : Int32) < scI B n (sk B n p) ∧ ¬ (-14 : Int32) ≤ scI B n (sk B n p)) := by
              rcases i5 with e | e | e | e | e | e | e | e | e | e
              · rw [e]; decide
              · rw [e]; decide
              · rw [e]; decide
              · rw [e]; decide
              · rw [e]; decide
              · rw [e]; decide
              · exact absurd (i1 e) c1
              · exact absurd (i2 e) c3
              · exact absurd (i3 e) c4
              · exact absurd (i4 e) c2
            rcases hv with e | ⟨e1, e2⟩
            · rw [if_pos e, qW_up]
              exact fin
            · rw [if_neg e1, if_neg e2, qW_up]
              exact fin
theorem k_readSum {a : Nat} {B : Nat → Nat} {n p : Nat} {E : Cd} {c m : Nat} {U : List Bool} {h : qa_M} (hA : qLaw a) (g : GI n p E c U m) (lc : LC a B n p E c h) : qW (m_X6_readSum h) (LPc a B n (pSum B n p E c)) := by
  have h400 := g.2.2.2.2.2.2
  unfold m_X6_readSum pSum
  rw [qbd_e, qW_bn]
  refine qW_mono (k_readValue hA g lc) ?_
  rintro ⟨x, g1⟩ hz
  cases q : pVal B n p E c with
  | inl e =>
    rw [q] at hz
    obtain ⟨z1, z2⟩ := hz
    have z1 : x = 0 := z1
    subst z1
    rw [if_pos rfl, qW_some]
    exact ⟨rfl, z2⟩
  | inr r =>
    rw [q] at hz
    obtain ⟨z1, lc2⟩ := hz
    have z1 : x = 1 := z1
    subst z1
    dsimp only
    obtain ⟨g2, hlt2⟩ := (pVal_ok g q).1
    rw [if_neg (by decide), qbd_e]
    exact k_sumLoop hA 400 r.1 r.2.2 0 none r.2.1 g1 (by omega) (by omega) g2 (fun k q => by cases q) lc2
/-- the comparison that stands here -/
theorem sc_cm {B : Nat → Nat} {n q : Nat} {k : Nat × Nat} (h : cmK B n q = some k) : scI B n q = cC (k.1, 0) ∧ tkE B n q = k.2 := by
  unfold cmK at h
  by_cases c1 : q < n ∧ B q = 60
  · rw [if_pos c1] at h
    have h := Option.some.inj h
    obtain ⟨k1, k2, k3⟩ := tk_sg (sgI_mk c1.1 c1.2) (by omega) (by omega)
    unfold scI
    rw [if_pos k1, k2, k3]
    by_cases t : two B n q = true
    · rw [if_pos t] at h; rw [if_pos t, if_pos t, ← h]; exact ⟨rfl, rfl⟩
    · rw [if_neg t] at h; rw [if_neg t, if_neg t, ← h]; exact ⟨rfl, rfl⟩
  · rw [if_neg c1] at h
    by_cases c2 : q < n ∧ B q = 61
    · rw [if_pos c2] at h
      have h := Option.some.inj h
      obtain ⟨k1, k2, k3⟩ := tk_sg (sgI_mk c2.1 c2.2) (by omega) (by omega)
      have tw : two B n q = false := two_no (by omega)
      rw [tw, if_neg (by decide)] at k2 k3
      unfold scI
      rw [if_pos k1, k2, k3, ← h]
      exact ⟨rfl, rfl⟩
    · rw [if_neg c2] at h
      by_cases c3 : q < n ∧ B q = 62
      · rw [if_pos c3] at h
        have h := Option.some.inj h
        obtain ⟨k1, k2, k3⟩ := tk_sg (sgI_mk c3.1 c3.2) (by omega) (by omega)
        unfold scI
        rw [if_pos k1, k2, k3]
        by_cases t : two B n q = true
        · rw [if_pos t] at h; rw [if_pos t, if_pos t, ← h]; exact ⟨rfl, rfl⟩
        · rw [if_neg t] at h; rw [if_neg t, if_neg t, ← h]; exact ⟨rfl, rfl⟩
      · rw [if_neg c3] at h
        cases h
theorem sc_cmN {B : Nat → Nat} {n q : Nat} (hB : q < n → B q < 256) (h : cmK B n q = none) : (-15 : Int32) < scI B n q := by
  have n1 : ¬ (q < n ∧ B q = 60) := fun c => by unfold cmK at h; rw [if_pos c] at h; cases h
  have n2 : ¬ (q < n ∧ B q = 61) := fun c => by unfold cmK at h; rw [if_neg n1, if_pos c] at h; cases h
  have n3 : ¬ (q < n ∧ B q = 62) := fun c => by unfold cmK at h; rw [if_neg n1, if_neg n2, if_pos c] at h; cases h
  unfold scI
  by_cases c : tkK B n q = 3
  · obtain ⟨k1, k2, k3⟩ := tkK_3 hB c
    obtain ⟨-, v1, -⟩ := tk_sg (sgI_mk (c := B q) k1 rfl) k2 k3
    have hb := hB k1
    have tw : two B n q = false := two_no (by omega)
    rw [if_pos c, v1, tw, if_neg (by decide)]
    unfold scV
    have ne : ∀ x, x < 2147483648 → B q ≠ x → ¬ nn (B q) = nn x := fun x hx hne z => hne ((nn_eq (by omega) hx).mp z)
    by_cases d1 : nn (B q) = 42
    · rw [if_pos d1]; decide
    · rw [if_neg d1]
      by_cases d2 : nn (B q) = 43
      · rw [if_pos d2]; decide
      · rw [if_neg d2]
        by_cases d3 : nn (B q) = 45
        · rw [if_pos d3]; decide
        · rw [if_neg d3]
          by_cases d4 : nn (B q) = 47
          · rw [if_pos d4]; decide
          · rw [if_neg d4, if_neg (by exact ne 60 (by omega) (by omega)), if_neg (by exact ne 61 (by omega) (by omega)), if_neg (by exact ne 62 (by omega) (by omega)), if_neg (by exact ne 316 (by omega) (by omega)), if_neg (by exact ne 318 (by omega) (by omega))]
            decide
  · rw [if_neg c]
    decide
theorem cC_cm {k : Nat} (h : k = 4 ∨ k = 5 ∨ k = 6 ∨ k = 7 ∨ k = 8) : ¬ (-15 : Int32) < cC (k, 0) ∧ (-19 : Int32) ≤ cC (k, 0) := by
  rcases h with rfl | rfl | rfl | rfl | rfl <;> decide
theorem k_compare {a : Nat} {B : Nat → Nat} {n p : Nat} {E : Cd} {c m : Nat} {U : List Bool} {h : qa_M} {P : Int32 × qa_M → Prop} {K : Int32 → qa_M → Option (Int32 × qa_M)} (hA : qLaw a) (g : GI n p E c U m) (hs : isS B n p = false) (lc : LC a B n p E c h)
    (h0 : ∀ f g, (cmK B n p = none ∧ f = ER p 0) ∨ (∃ k, cmK B n p = some k ∧ c = 60 ∧ f = ER p 3) → g.1 1 7 = nn f → qW (K 0 g) P)
    (h1 : ∀ k g, cmK B n p = some k → c ≠ 60 → LC a B n k.2 E (c + 1) g → g.1 21 3 = cC (k.1, 0) → qW (K 1 g) P) : qW (qbn (m_X6_readComparison h) K) P := by
  have hp := g.2.2.2.2.2.1
  have hc := g.2.2.2.2.1
  have hsk : sk B n p = p := sk_id hs
  have tk := lc.2.1
  rw [hsk] at tk
  have hB : p < n → B p < 256 := fun q => (lc.1.2.2 _ q).1
  unfold m_X6_readComparison
  rw [k_signCode tk, qbn_s, qbd_e]
  cases hk : cmK B n p with
  | none =>
    rw [if_pos (sc_cmN hB hk)]
    unfold f_X6_readComparison_b17
    rw [show (0 : Int32) = nn 0 from rfl, k_fail lc.2.2.1 tk.1, qbn_s, qpr_t (by decide), qbn_s]
    exact h0 (ER p 0) _ (.inl ⟨hk, rfl⟩) wI_at
  | some k =>
    obtain ⟨k1, k2⟩ := sc_cm hk
    obtain ⟨k3, k4, k5⟩ := cmK_ok hk
    obtain ⟨q1, q2⟩ := cC_cm k3
    rw [k1, if_neg q1, if_pos q2, qW_bn]
    refine k_part hA lc hc ?_ ?_
    · intro c6 g2 e7
      rw [if_pos rfl, qW_some]
      rw [hsk] at e7
      exact h0 (ER p 3) g2 (.inr ⟨k, hk, c6, rfl⟩) e7
    · intro c6 g2 lc2
      rw [if_neg (by decide), qbd_e, qW_bv]
      have f1 : qfr [(21, 4)] g2 (qw_I g2 21 3 (cC (k.1, 0))) := qfr_Ik rfl (by simp) qfr_rf
      have h83 := qLaw_g hA
      have w : ∀ b j, b ≠ 21 → inW [(21, 4)] b j = false := fun b j hb => by unfold inW; simp; omega
      have lc3 : LC a B n p E (c + 1) (qw_I g2 21 3 (cC (k.1, 0))) := by
        obtain ⟨t, tk, f0, mm, h2, h21⟩ := lc2
        exact ⟨TpC_fr t f1 rfl (fun j => rfl), TkC_fr tk f1 rfl rfl rfl rfl, by rw [(f1.1 1 7 rfl).1]; exact f0, CM_fr mm f1 (w _ _ (by omega)) (fun j => w _ _ (by omega)), by rw [wI_ne (by omega)]; exact h2, h21⟩
      refine qW_fr (LC_scan hA lc3 (e := k.2) (by rw [hsk]; exact k2) hp) (fun z e => fr_X9_scan _ e) ?_
      intro g4 lc4 f4
      have f4 : qfr wSc _ g4 := f4
      rw [qW_some]
      exact h1 k g4 hk c6 lc4 (by rw [(f4.1 21 3 rfl).1, wI_at])
theorem pCmp_0 {B : Nat → Nat} {n p c e : Nat} {E : Cd} (q : pSum B n p E c = .inl e) : pCmp B n p E c = .inl e := by simp only [pCmp, q, pBd]
theorem pCmp_1 {B : Nat → Nat} {n p c : Nat} {E : Cd} {r : Nat × Cd × Nat} (q : pSum B n p E c = .inr r) (hk : cmK B n r.1 = none) : pCmp B n p E c = .inl (ER r.1 0) := by simp only [pCmp, q, pBd, hk]
theorem pCmp_2 {B : Nat → Nat} {n p c : Nat} {E : Cd} {r : Nat × Cd × Nat} {k : Nat × Nat} (q : pSum B n p E c = .inr r) (hk : cmK B n r.1 = some k) (c6 : r.2.2 = 60) : pCmp B n p E c = .inl (ER r.1 3) := by
  simp only [pCmp, q, pBd, hk]
  rw [if_pos c6]
theorem pCmp_3 {B : Nat → Nat} {n p c : Nat} {E : Cd} {r : Nat × Cd × Nat} {k : Nat × Nat} (q : pSum B n p E c = .inr r) (hk : cmK B n r.1 = some k) (c6 : r.2.2 ≠ 60) : pCmp B n p E c = pBd (pSum B n k.2 r.2.1 (r.2.2 + 1)) (fun t => .inr (t.1, t.2.1 ++ [(k.1, 0)], t.2.2)) := by
  unfold pCmp
  rw [q]
  show (match cmK B n r.1 with
    | none => (.inl (ER r.1 0) : PS)
    | some k => if r.2.2 = 60 then .inl (ER r.1 3) else pBd (pSum B n k.2 r.2.1 (r.2.2 + 1)) (fun t => .inr (t.1, t.2.1 ++ [(k.1, 0)], t.2.2))) = _
  rw [hk]
  show (if r.2.2 = 60 then _ else _) = _
  rw [if_neg c6]
theorem k_cmp4 {a : Nat} {B : Nat → Nat} {n p : Nat} {E : Cd} {c m : Nat} {U : List Bool} {h : qa_M} (hA : qLaw a) (g : GI n p E c U m) (lc : LC a B n p E c h) : qW (qbn (m_X6_readSum h) (fun (c35 : Int32) (h35 : qa_M) => if c35 = 0 then some ((0 : Int32), h35) else qbn (m_X6_readComparison h35) (fun (c42 : Int32) (h42 : qa_M) => if c42 = 0 then some ((0 : Int32), h42) else qbn (m_X6_readSum h42) (fun (c49 : Int32) (h49 : qa_M) => if c49 = 0 then some ((0 : Int32), h49) else qbn (m_X6_endComparison h49) (fun (c56 : Int32) (h56 : qa_M) => if c56 = 0 then some ((0 : Int32), h56) else some ((1 : Int32), h56)))))) (LPc a B n (pCmp B n p E c)) := by
  rw [qW_bn]
  refine qW_mono (k_readSum hA g lc) ?_
  rintro ⟨x, g1⟩ hz
  cases q : pSum B n p E c with
  | inl e =>
    rw [q] at hz
    obtain ⟨z1, z2⟩ := hz
    have z1 : x = 0 := z1
    subst z1
    rw [if_pos rfl, qW_some, pCmp_0 q]
    exact ⟨rfl, z2⟩
  | inr r =>
    rw [q] at hz
    obtain ⟨z1, lc1⟩ := hz
    have z1 : x = 1 := z1
    subst z1
    dsimp only
    obtain ⟨⟨gr, hlt⟩, hs⟩ := pSum_ok g q
    rw [if_neg (by decide)]
    refine k_compare hA gr hs lc1 ?_ ?_
    · intro f g2 hm e7
      rw [if_pos rfl, qW_some]
      rcases hm with ⟨hk, rfl⟩ | ⟨k, hk, c6, rfl⟩
      · rw [pCmp_1 q hk]; exact ⟨rfl, e7⟩
      · rw [pCmp_2 q hk c6]; exact ⟨rfl, e7⟩
    · intro k g2 hk c6 lc2 e3
      obtain ⟨k1, k2, k3⟩ := cmK_ok hk
      have g3 : GI n k.2 r.2.1 (r.2.2 + 1) (false :: U) m := by
        obtain ⟨x1, x2, x3, x4, x5, x6, x7⟩ := gr
        exact ⟨x1, x2, by omega, by omega, by omega, k3, x7⟩
      rw [if_neg (by decide), qW_bn]
      refine qW_fr (k_readSum hA g3 lc2) (fun z e => fr_X6_readSum _ e) ?_
      rintro ⟨y, g4⟩ hz4 f4
      rw [pCmp_3 q hk c6]
      cases q2 : pSum B n k.2 r.2.1 (r.2.2 + 1) with
      | inl e =>
        rw [q2] at hz4
        obtain ⟨z1, z2⟩ := hz4
        have z1 : y = 0 := z1
        subst z1
        rw [if_pos rfl, qW_some]
        exact ⟨rfl, z2⟩
      | inr t =>
        rw [q2] at hz4
        obtain ⟨z1, lc4⟩ := hz4
        have z1 : y = 1 := z1
        subst z1
        dsimp only
        have g5 := (pSum_ok g3 q2).1.1
        have hl5 := g5.len
        have e34 : g4.1 21 3 = cC (k.1, 0) := by
          have := (f4.1 21 3 rfl).1
          exact this.trans e3
        rw [if_neg (by decide)]
        unfold m_X6_endComparison
        rw [qW_bn]
        show qW (qnn (g4.2.2.1 21 1) (fun a1 => qpr (a1 = 83 ∨ a1 = 92 ∨ a1 = 101 ∨ a1 = 110) (qbv (m_X5_emit a1 (g4.1 21 3) g4) (fun h8 : qa_M => some ((1 : Int32), h8))))) _
        rw [e34]
        refine k_em (x := (k.1, 0)) hA lc4 (by omega) ?_
        intro g6 lc6
        rw [qW_some]
        dsimp only
        rw [if_neg (by decide), qW_some]
        exact ⟨rfl, lc6⟩
