/-! A LAND IS READ: the class's clause, and all of them -/
theorem k_fulL {s : Sg} {h : qa_M} {cnt k : Nat} (w : WF s) (r : RelD s h) (hk : k < 5) (hc : cnt ≤ 24) {P : Int32 × qa_M → Prop} {s0 : Int32} (hs0 : s0 = bi (!decide ((k = 0) ↔ (cnt = 0))))
    (h1 : fulL s cnt k = true → qW (f_X4_readClause_b68 h) P)
    (h2 : fulL s cnt k = false → qW (qbv (m_X9_scan h) (fun h81 : qa_M => if nn k = (0 : Int32) then qbn (m_X4_readWide h81) (fun (c117 : Int32) (h117 : qa_M) => qpr (c117 = 0 ∨ c117 = 1) (some (c117, h117))) else if nn k = (1 : Int32) then qbn (m_X4_readWood h81) (fun (c122 : Int32) (h122 : qa_M) => qpr (c122 = 0 ∨ c122 = 1) (some (c122, h122))) else if nn k = (2 : Int32) then qbn (m_X4_readHill h81) (fun (c127 : Int32) (h127 : qa_M) => qpr (c127 = 0 ∨ c127 = 1) (some (c127, h127))) else if nn k = (3 : Int32) then qbn (m_X4_readRoad h81) (fun (c132 : Int32) (h132 : qa_M) => qpr (c132 = 0 ∨ c132 = 1) (some (c132, h132))) else qbn (m_X4_readSort h81) (fun (c137 : Int32) (h137 : qa_M) => qpr (c137 = 0 ∨ c137 = 1) (some (c137, h137))))) P) :
    qW (f_X4_readClause_b49 (nn cnt) (nn k) s0 h) P := by
  obtain ⟨⟨a0, a1, a2, a3, a4, a5⟩, -⟩ := r
  rw [w.h.1] at a2
  rw [w.o.1] at a3
  rw [w.s.1] at a4
  have l1 := w.h.2
  have l2 := w.o.2
  have l3 := w.s.2
  unfold f_X4_readClause_b49
  rw [qbd_e, hs0]
  by_cases c24 : cnt = 24
  · rw [if_pos (by exact (nn_le (a := 24) (by omega) (by omega)).mpr (by omega))]
    refine h1 ?_
    unfold fulL
    rw [decide_eq_true c24]
    rfl
  · rw [if_neg (fun q => by rw [show (24 : Int32) = nn 24 from rfl, nn_le (by omega) (by omega)] at q; omega)]
    by_cases c0 : ((k = 0) ↔ (cnt = 0))
    · have F : fulL s cnt k = ((decide (k = 2) && decide (gH s = 8)) || ((decide (k = 3) && decide (gO s = 6)) || (decide (k = 4) && decide (gS s = 4)))) := by
        unfold fulL
        rw [decide_eq_false c24, decide_eq_true c0]
        rfl
      rw [decide_eq_true c0, if_pos (by rfl)]
      have full : m_X4_isFull (nn k) h = some (bi (fulL s cnt k), h) := by
        rw [F]
        unfold m_X4_isFull
        have k5 : k = 0 ∨ k = 1 ∨ k = 2 ∨ k = 3 ∨ k = 4 := by omega
        rcases k5 with rfl | rfl | rfl | rfl | rfl
        · rw [if_neg (by decide), if_neg (by decide), if_pos (by decide)]
          rfl
        · rw [if_neg (by decide), if_neg (by decide), if_pos (by decide)]
          rfl
        · rw [if_pos (by rfl), a2]
          by_cases c : gH s = 8
          · rw [if_neg (fun q => by rw [show (8 : Int32) = nn 8 from rfl, nn_lt (by omega) (by omega)] at q; omega), decide_eq_true c]
            rfl
          · rw [if_pos (by exact (nn_lt (b := 8) (by omega) (by omega)).mpr (by omega)), decide_eq_false c]
            rfl
        · rw [if_neg (by decide), if_pos (by rfl), a3]
          by_cases c : gO s = 6
          · rw [if_neg (fun q => by rw [show (6 : Int32) = nn 6 from rfl, nn_lt (by omega) (by omega)] at q; omega), decide_eq_true c]
            rfl
          · rw [if_pos (by exact (nn_lt (b := 6) (by omega) (by omega)).mpr (by omega)), decide_eq_false c]
            rfl
        · rw [if_neg (by decide), if_neg (by decide), if_neg (by decide), a4]
          by_cases c : gS s = 4
          · rw [if_neg (fun q => by rw [show (4 : Int32) = nn 4 from rfl, nn_lt (by omega) (by omega)] at q; omega), decide_eq_true c]
            rfl
          · rw [if_pos (by exact (nn_lt (b := 4) (by omega) (by omega)).mpr (by omega)), decide_eq_false c]
            rfl
      rw [full, qbn_s]
      cases e : fulL s cnt k with
      | true =>
        rw [if_neg (by decide)]
        exact h1 e
      | false =>
        rw [if_pos (by decide)]
        exact h2 e
    · rw [decide_eq_false c0, if_neg (by decide)]
      refine h1 ?_
      unfold fulL
      rw [decide_eq_false c0]
      simp
theorem CRs_01 {B : Nat → Nat} {n : Nat} {r : Nat ⊕ (Sg × Nat)} {x : Option (Int32 × qa_M)} (h : qW x (CRs B n r)) : qW (qbn x (fun (c : Int32) (g : qa_M) => qpr (c = 0 ∨ c = 1) (some (c, g)))) (CRs B n r) := by
  rw [qW_bn]
  refine qW_mono h ?_
  rintro ⟨c, g⟩ hz
  have : c = 0 ∨ c = 1 := by
    cases r with
    | inl f => exact .inl hz.1
    | inr a => exact .inr hz.1
  rw [qpr_t this, qW_some]
  exact hz
theorem k_readClause {B : Nat → Nat} {n p cnt : Nat} {s : Sg} {h : qa_M} (d : DC s cnt) (hc : cnt ≤ 24) (c : CS B n s p h) : qW (m_X4_readClause (nn cnt) h) (CRs B n (clP B n s cnt p)) := by
  obtain ⟨t, tk, r, f0, hp⟩ := c
  have w := d.1.1
  have e4 : h.1 1 4 = nn (sk B n p) := tk.1
  have hskn := sk_le (B := B) hp
  have h400 := t.2.1
  unfold m_X4_readClause clP
  rw [k_among t tk (by omega), qbn_s, qbd_e, amR_N, show wls 0 = [5, 6, 7, 8, 9] from rfl]
  cases ha : amN B n (sk B n p) [5, 6, 7, 8, 9] 0 with
  | none =>
    show qW (if (-1 : Int32) = -1 then _ else _) _
    rw [if_pos rfl, show (0 : Int32) = nn 0 from rfl, k_fail f0 e4, qbn_s, qpr_t (by decide), qW_some]
    exact ⟨rfl, wI_at⟩
  | some k =>
    obtain ⟨k1, k2, wv, k3, k4⟩ := amN_lt ha
    have k2 : k < 5 := by simpa using k2
    have hw : (wrd wv).length = 4 := by
      rw [Nat.sub_zero] at k3
      have : k = 0 ∨ k = 1 ∨ k = 2 ∨ k = 3 ∨ k = 4 := by omega
      rcases this with rfl | rfl | rfl | rfl | rfl <;> (have := Option.some.inj k3; subst this; decide)
    have hwd : wd B n (sk B n p) = sk B n p + 4 := by
      have := mtc_len k4
      rw [hw] at this
      exact this.symm
    have hle : sk B n p + 4 ≤ n := by rw [← hwd]; exact wd_le hskn
    have hL : isL B n (sk B n p) = true := by
      cases q : isL B n (sk B n p) with
      | true => rfl
      | false =>
        have : wd B n (sk B n p) = sk B n p := ens_is isL_hi (by omega) (Nat.le_refl _) (fun j h1 h2 => by omega) q
        omega
    have hE : h.1 1 2 = nn (sk B n p + 4) := by
      rw [tk.2.2.2.1]
      unfold tkE
      rw [if_neg (by omega), if_neg (fun q => by rw [isD_L q] at hL; cases hL), if_pos hL, hwd]
    have main : ∀ s0, s0 = bi (!decide ((k = 0) ↔ (cnt = 0))) → qW (f_X4_readClause_b49 (nn cnt) (nn k) s0 h) (CRs B n (if fulL s cnt k then .inl (ER (sk B n p) 4) else if k = 0 then cWide B n s (sk B n p + 4) else if k = 1 then cWood B n s (sk B n p + 4) else if k = 2 then cHill B n s (sk B n p + 4) else if k = 3 then cRoad B n s (sk B n p + 4) else cSort B n s (sk B n p + 4))) := by
      intro s0 hs0
      refine k_fulL w r k2 hc hs0 ?_ ?_
      · intro hf
        rw [if_pos hf]
        unfold f_X4_readClause_b68
        rw [show (4 : Int32) = nn 4 from rfl, k_fail f0 e4, qbn_s, qpr_t (by decide), qW_some]
        exact ⟨rfl, wI_at⟩
      · intro hf
        rw [hf, if_neg (by decide), qW_bv]
        refine qW_fr (k_scan t hE hle) (fun z e => fr_X9_scan _ e) ?_
        intro g tg f1
        have f1 : qfr wSc h g := f1
        have cg : CS B n s (sk B n p + 4) g := ⟨TpC_fr t f1 rfl (fun j => rfl), tg, RelD_fr r f1 (fun b j h1 h2 => by unfold wSc inW; simp; omega), by rw [(f1.1 1 7 rfl).1]; exact f0, hle⟩
        have cf : ((k = 0) ↔ (cnt = 0)) := Classical.byContradiction (fun q => by
          unfold fulL at hf
          rw [decide_eq_false q] at hf
          simp at hf)
        have dC : k ≠ 0 → 2 ≤ gC s ∧ 2 ≤ gR s := fun q => d.2.2 (by
          rcases Nat.eq_zero_or_pos cnt with z | z
          · exact absurd (cf.mpr z) q
          · exact z)
        have k5 : k = 0 ∨ k = 1 ∨ k = 2 ∨ k = 3 ∨ k = 4 := by omega
        rcases k5 with rfl | rfl | rfl | rfl | rfl
        · rw [if_pos (by rfl), if_pos rfl]
          exact CRs_01 (k_readWide cg)
        · rw [if_neg (by decide), if_pos (by rfl), if_neg (by decide), if_pos rfl]
          exact CRs_01 (k_readWood w (dC (by omega)).1 (dC (by omega)).2 cg)
        · have h8 : gH s < 8 := by
            have := w.h.2
            rcases Nat.eq_or_lt_of_le this with q | q
            · unfold fulL at hf
              rw [decide_eq_true q] at hf
              simp at hf
            · exact q
          rw [if_neg (by decide), if_neg (by decide), if_pos (by rfl), if_neg (by decide), if_neg (by decide), if_pos rfl]
          exact CRs_01 (k_readHill w (dC (by omega)).1 (dC (by omega)).2 h8 cg)
        · have h8 : gO s < 6 := by
            have := w.o.2
            rcases Nat.eq_or_lt_of_le this with q | q
            · unfold fulL at hf
              rw [decide_eq_true q] at hf
              simp at hf
            · exact q
          rw [if_neg (by decide), if_neg (by decide), if_neg (by decide), if_pos (by rfl), if_neg (by decide), if_neg (by decide), if_neg (by decide), if_pos rfl]
          exact CRs_01 (k_readRoad w (dC (by omega)).1 (dC (by omega)).2 h8 cg)
        · have h8 : gS s < 4 := by
            have := w.s.2
            rcases Nat.eq_or_lt_of_le this with q | q
            · unfold fulL at hf
              rw [decide_eq_true q] at hf
              simp at hf
            · exact q
          rw [if_neg (by decide), if_neg (by decide), if_neg (by decide), if_neg (by decide), if_neg (by decide), if_neg (by decide), if_neg (by decide), if_neg (by decide)]
          exact CRs_01 (k_readSort w h8 cg)
    show qW (if nn k = -1 then _ else if nn cnt = 0 then if nn k = 0 then f_X4_readClause_b49 (nn cnt) (nn k) 0 h else f_X4_readClause_b49 (nn cnt) (nn k) 1 h else if nn k = 0 then f_X4_readClause_b49 (nn cnt) (nn k) 1 h else f_X4_readClause_b49 (nn cnt) (nn k) 0 h) _
    rw [if_neg (nn_nm1 (by omega))]
    by_cases c1 : cnt = 0
    · rw [if_pos (by rw [c1]; rfl)]
      by_cases c2 : k = 0
      · rw [if_pos (by rw [c2]; rfl)]
        exact main 0 (by rw [decide_eq_true (by omega)]; rfl)
      · rw [if_neg (fun q => by rw [show (0 : Int32) = nn 0 from rfl, nn_eq (by omega) (by omega)] at q; exact c2 q)]
        exact main 1 (by rw [decide_eq_false (by omega)]; rfl)
    · rw [if_neg (fun q => by rw [show (0 : Int32) = nn 0 from rfl, nn_eq (by omega) (by omega)] at q; exact c1 q)]
      by_cases c2 : k = 0
      · rw [if_pos (by rw [c2]; rfl)]
        exact main 1 (by rw [decide_eq_false (by omega)]; rfl)
      · rw [if_neg (fun q => by rw [show (0 : Int32) = nn 0 from rfl, nn_eq (by omega) (by omega)] at q; exact c2 q)]
        exact main 0 (by rw [decide_eq_true (by omega)]; rfl)
