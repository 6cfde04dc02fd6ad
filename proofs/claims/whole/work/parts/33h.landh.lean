/-! A LAND IS READ: the reference's clause, and all of them -/
theorem r_isFull {B : Nat → Nat} {n p k cnt : Nat} {s : Sg} {h : qa_M} (w : WF s) (c : RT B n s p h) (hk : k < 5) (hc : cnt ≤ 24) : m_X12_isFull (nn k) (nn cnt) h = some (bi (fulL s cnt k), h) := by
  have a2 : h.1 132 2 = nn (gH s) := (c.at (by omega)).trans w.h.1
  have a3 : h.1 132 3 = nn (gO s) := (c.at (by omega)).trans w.o.1
  have a4 : h.1 132 4 = nn (gS s) := (c.at (by omega)).trans w.s.1
  have l1 := w.h.2
  have l2 := w.o.2
  have l3 := w.s.2
  have b9 : ∀ z : Bool, z = decide (cnt = 0) → f_X12_isFull_b9 (nn k) (nn cnt) (bi z) h = some (bi (fulL s cnt k), h) := by
    intro z hz
    unfold f_X12_isFull_b9
    rw [qbd_e]
    by_cases c24 : cnt = 24
    · rw [if_pos (by rw [c24]; rfl)]
      unfold f_X12_isFull_b76 fulL
      rw [decide_eq_true c24]
      rfl
    · rw [if_neg (fun q => by rw [show (24 : Int32) = nn 24 from rfl, nn_eq (by omega) (by omega)] at q; exact c24 q)]
      have b25 : ∀ y : Bool, y = decide (k = 0) → f_X12_isFull_b25 (nn k) (bi z) (bi y) h = some (bi (fulL s cnt k), h) := by
        intro y hy
        unfold f_X12_isFull_b25
        by_cases c0 : ((k = 0) ↔ (cnt = 0))
        · have F : fulL s cnt k = ((decide (k = 2) && decide (gH s = 8)) || ((decide (k = 3) && decide (gO s = 6)) || (decide (k = 4) && decide (gS s = 4)))) := by
            unfold fulL
            rw [decide_eq_false c24, decide_eq_true c0]
            rfl
          have yz : y = z := by rw [hy, hz, Bool.eq_iff_iff, decide_eq_true_eq, decide_eq_true_eq]; exact c0
          rw [if_pos (by rw [yz]), F]
          unfold f_X12_isFull_b45 f_X12_isFull_b61 f_X12_isFull_b76
          simp only [show (2 : Int32).toNatClampNeg = 2 from rfl, show (3 : Int32).toNatClampNeg = 3 from rfl, show (4 : Int32).toNatClampNeg = 4 from rfl]
          have k5 : k = 0 ∨ k = 1 ∨ k = 2 ∨ k = 3 ∨ k = 4 := by omega
          rcases k5 with rfl | rfl | rfl | rfl | rfl
          · rw [if_neg (by decide), if_neg (by decide), if_neg (by decide)]
            rfl
          · rw [if_neg (by decide), if_neg (by decide), if_neg (by decide)]
            rfl
          · rw [if_pos (by rfl), qck_ok (i := 2) (by decide), a2]
            by_cases c1 : gH s = 8
            · rw [if_pos (by rw [c1]; rfl), decide_eq_true c1]
              rfl
            · rw [if_neg (fun q => by rw [show (8 : Int32) = nn 8 from rfl, nn_eq (by omega) (by omega)] at q; exact c1 q), if_neg (by decide), if_neg (by decide), decide_eq_false c1]
              rfl
          · rw [if_neg (by decide), if_pos (by rfl), qck_ok (i := 3) (by decide), a3]
            by_cases c1 : gO s = 6
            · rw [if_pos (by rw [c1]; rfl), decide_eq_true c1]
              rfl
            · rw [if_neg (fun q => by rw [show (6 : Int32) = nn 6 from rfl, nn_eq (by omega) (by omega)] at q; exact c1 q), if_neg (by decide), decide_eq_false c1]
              rfl
          · rw [if_neg (by decide), if_neg (by decide), if_pos (by rfl), qck_ok (i := 4) (by decide), a4]
            by_cases c1 : gS s = 4
            · rw [if_pos (by rw [c1]; rfl), decide_eq_true c1]
              rfl
            · rw [if_neg (fun q => by rw [show (4 : Int32) = nn 4 from rfl, nn_eq (by omega) (by omega)] at q; exact c1 q), decide_eq_false c1]
              rfl
        · have yz : y ≠ z := by
            intro q
            apply c0
            rw [hy, hz, Bool.eq_iff_iff, decide_eq_true_eq, decide_eq_true_eq] at q
            exact q
          have yz2 : ¬ bi y = bi z := by
            cases y <;> cases z <;> first | exact absurd rfl yz | decide
          rw [if_neg yz2]
          unfold f_X12_isFull_b76 fulL
          rw [decide_eq_false c0]
          simp [bi]
      by_cases ck : k = 0
      · rw [if_pos (by rw [ck]; rfl)]
        exact b25 true (by rw [decide_eq_true ck])
      · rw [if_neg (fun q => by rw [show (0 : Int32) = nn 0 from rfl, nn_eq (by omega) (by omega)] at q; exact ck q)]
        exact b25 false (by rw [decide_eq_false ck])
  unfold m_X12_isFull
  by_cases cc : cnt = 0
  · rw [if_pos (by rw [cc]; rfl)]
    exact b9 true (by rw [decide_eq_true cc])
  · rw [if_neg (fun q => by rw [show (0 : Int32) = nn 0 from rfl, nn_eq (by omega) (by omega)] at q; exact cc q)]
    exact b9 false (by rw [decide_eq_false cc])
theorem r_clause33 {B : Nat → Nat} {n p cnt : Nat} {s : Sg} {h : qa_M} (d : DC s cnt) (hc : cnt ≤ 24) (c : RT B n s (sk B n p) h) (hp : p ≤ n) (hsk : sk B n p ≤ n) :
    qW (f_X12_landClause_b33 (nn cnt) (nn (sk B n p)) (match amN B n (sk B n p) [5, 6, 7, 8, 9] 0 with
      | none => 5
      | some k => nn k) h) (RR B n (clP B n s cnt p)) := by
  have w := d.1.1
  unfold f_X12_landClause_b33 clP
  cases ha : amN B n (sk B n p) [5, 6, 7, 8, 9] 0 with
  | none =>
    obtain ⟨fe, rf⟩ := RF_fs (q := sk B n p) (c := 0) c hsk (by omega)
    show qW (if (5 : Int32) = 5 then qbv (m_X12_fails 0 (nn (sk B n p)) h) (fun h41 : qa_M => some h41) else _) _
    rw [if_pos rfl, show m_X12_fails 0 (nn (sk B n p)) h = _ from fe, qbv_s, qW_some]
    exact rf.1
  | some k =>
    obtain ⟨k1, k2, wv, k3, k4⟩ := amN_lt ha
    have k2 : k < 5 := by simpa using k2
    have hw : (wrd wv).length = 4 := by
      rw [Nat.sub_zero] at k3
      have : k = 0 ∨ k = 1 ∨ k = 2 ∨ k = 3 ∨ k = 4 := by omega
      rcases this with rfl | rfl | rfl | rfl | rfl <;> (have := Option.some.inj k3; subst this; decide)
    have hwd : wd B n (sk B n p) = sk B n p + 4 := by
      have := mtc_len k4
      rw [hw] at this
      exact this.symm
    have hle : sk B n p + 4 ≤ n := by rw [← hwd]; exact wd_le hsk
    show qW (if nn k = 5 then _ else qbn (m_X12_isFull (nn k) (nn cnt) h) _) (RR B n (if fulL s cnt k then .inl (ER (sk B n p) 4) else if k = 0 then cWide B n s (sk B n p + 4) else if k = 1 then cWood B n s (sk B n p + 4) else if k = 2 then cHill B n s (sk B n p + 4) else if k = 3 then cRoad B n s (sk B n p + 4) else cSort B n s (sk B n p + 4)))
    rw [if_neg (fun q => by rw [show (5 : Int32) = nn 5 from rfl, nn_eq (by omega) (by omega)] at q; omega), r_isFull w c k2 hc, qbn_s]
    cases hf : fulL s cnt k with
    | true =>
      obtain ⟨fe, rf⟩ := RF_fs (q := sk B n p) (c := 4) c hsk (by omega)
      rw [if_neg (by decide), if_pos rfl, show (4 : Int32) = nn 4 from rfl, fe, qbv_s, qW_some]
      exact rf.1
    | false =>
      rw [if_pos (by decide), if_neg (by decide), qbd_e, c.2.1, show (4 : Int32) = nn 4 from rfl, nn_add]
      have f1 : qfr [(119, 22)] h (qw_I h 119 21 (nn (sk B n p + 4))) := qfr_Ik rfl (by simp) qfr_rf
      obtain ⟨g, hg⟩ : ∃ g, g = qw_I h 119 21 (nn (sk B n p + 4)) := ⟨_, rfl⟩
      rw [← hg] at f1 ⊢
      have cg : RT B n s (sk B n p + 4) g := ⟨TpR_fr c.1 f1 rfl (fun j => rfl), by rw [hg, wI_at], by rw [(f1.1 119 22 rfl).1]; exact c.2.2.1, by rw [sgN_fr f1 (fun b j h1 h2 => by unfold inW; simp; omega)]; exact c.2.2.2.1, hle⟩
      have cf : ((k = 0) ↔ (cnt = 0)) := Classical.byContradiction (fun q => by
        unfold fulL at hf
        rw [decide_eq_false q] at hf
        simp at hf)
      have dC : k ≠ 0 → 2 ≤ gC s ∧ 2 ≤ gR s := fun q => d.2.2 (by
        rcases Nat.eq_zero_or_pos cnt with z | z
        · exact absurd (cf.mpr z) q
        · exact z)
      have eta : ∀ {x : Option qa_M} {P : qa_M → Prop}, qW x P → qW (qbv x (fun g => some g)) P := by
        intro x P hx
        rw [qW_bv]
        exact qW_mono hx (fun a ha => qW_some.mpr ha)
      have k5 : k = 0 ∨ k = 1 ∨ k = 2 ∨ k = 3 ∨ k = 4 := by omega
      rcases k5 with rfl | rfl | rfl | rfl | rfl
      · rw [if_pos (by rfl), if_pos rfl]
        refine r_am (lo := 2) (hi := 6) cg (by omega) (by omega) ?_ ?_
        · intro x f g2 q rf
          have e0 : cWide B n s (sk B n p + 4) = .inl f := by simp only [cWide, pBd, q]
          rw [e0, qck_ok (i := 0) (by decide), qbd_e]
          have f2 : qfr [(132, 0)] g2 (qw_I g2 132 (0 : Int32).toNatClampNeg x) := qfr_I0 rfl (by simp) qfr_rf
          have rf2 : RF B n (upS s 0 0 x) f (qw_I g2 132 (0 : Int32).toNatClampNeg x) := by
            refine ⟨RG_up rf.1 f2 rfl rfl rfl (fun j => rfl), rf.2.1, fun j hj => ?_⟩
            show (qw_I g2 132 0 x).1 132 j = _
            by_cases c1 : j = 0
            · subst c1
              rw [wI_at, upS_at]
            · rw [wI_ne (by omega), upS_ne (by omega)]
              exact rf.2.2 j hj
          refine r_amF rf2 ?_
          intro g3 rf3
          rw [qck_ok (i := 1) (by decide), qbd_e, qW_some]
          exact RG_up rf3.1 (W := [(132, 0)]) (qfr_I0 rfl (by simp) qfr_rf) rfl rfl rfl (fun j => rfl)
        · intro v e g2 q rs
          rw [qck_ok (i := 0) (by decide), qbd_e]
          have f2 : qfr [(132, 0)] g2 (qw_I g2 132 (0 : Int32).toNatClampNeg (nn v)) := qfr_I0 rfl (by simp) qfr_rf
          have rs2 : RT B n (upS s 0 0 (nn v)) e (qw_I g2 132 (0 : Int32).toNatClampNeg (nn v)) := RT_up rs f2 rfl rfl rfl (fun j => rfl) (by
            show sgN (qw_I g2 (132 + 0) 0 (nn v)) = _
            rw [sgN_w (by omega) (by omega), rs.2.2.2.1])
          refine r_am (lo := 2) (hi := 6) rs2 (by omega) (by omega) ?_ ?_
          · intro x f g3 q2 rf3
            have e0 : cWide B n s (sk B n p + 4) = .inl f := by simp only [cWide, pBd, q, q2]
            rw [e0, qck_ok (i := 1) (by decide), qbd_e, qW_some]
            exact RG_up rf3.1 (W := [(132, 0)]) (qfr_I0 rfl (by simp) qfr_rf) rfl rfl rfl (fun j => rfl)
          · intro v2 e2 g3 q2 rs3
            have e0 : cWide B n s (sk B n p + 4) = .inr (wiS s v v2, e2) := by simp only [cWide, pBd, q, q2]
            rw [e0, qck_ok (i := 1) (by decide), qbd_e, qW_some]
            refine RT_up rs3 (W := [(132, 0)]) (qfr_I0 rfl (by simp) qfr_rf) rfl rfl rfl (fun j => rfl) ?_
            show sgN (qw_I g3 (132 + 0) 1 (nn v2)) = _
            rw [sgN_w (by omega) (by omega), rs3.2.2.2.1]
            rfl
      · rw [if_neg (by decide), if_pos (by rfl), if_neg (by decide), if_pos rfl]
        exact eta (r_woods w (dC (by omega)).1 (dC (by omega)).2 cg)
      · have h8 : gH s < 8 := by
          have := w.h.2
          rcases Nat.eq_or_lt_of_le this with q | q
          · unfold fulL at hf
            rw [decide_eq_true q] at hf
            simp at hf
          · exact q
        rw [if_neg (by decide), if_neg (by decide), if_pos (by rfl), if_neg (by decide), if_neg (by decide), if_pos rfl]
        exact eta (r_hill w (dC (by omega)).1 (dC (by omega)).2 h8 cg)
      · have h8 : gO s < 6 := by
          have := w.o.2
          rcases Nat.eq_or_lt_of_le this with q | q
          · unfold fulL at hf
            rw [decide_eq_true q] at hf
            simp at hf
          · exact q
        rw [if_neg (by decide), if_neg (by decide), if_neg (by decide), if_pos (by rfl), if_neg (by decide), if_neg (by decide), if_neg (by decide), if_pos rfl]
        exact eta (r_road w (dC (by omega)).1 (dC (by omega)).2 h8 cg)
      · have h8 : gS s < 4 := by
          have := w.s.2
          rcases Nat.eq_or_lt_of_le this with q | q
          · unfold fulL at hf
            rw [decide_eq_true q] at hf
            simp at hf
          · exact q
        rw [if_neg (by decide), if_neg (by decide), if_neg (by decide), if_neg (by decide), if_neg (by decide), if_neg (by decide), if_neg (by decide), if_neg (by decide)]
        exact eta (r_sorted w h8 cg)
theorem landWord_eq : ∀ k, k < 5 → ∀ h, m_X12_landWord (nn k) h = some (5 + k, h) := by
  intro k hk h
  have k5 : k = 0 ∨ k = 1 ∨ k = 2 ∨ k = 3 ∨ k = 4 := by omega
  rcases k5 with rfl | rfl | rfl | rfl | rfl <;> rfl
theorem r_landClause {B : Nat → Nat} {n p cnt : Nat} {s : Sg} {h : qa_M} (d : DC s cnt) (hc : cnt ≤ 24) (c : RT B n s p h) : qW (m_X12_landClause (nn cnt) h) (RR B n (clP B n s cnt p)) := by
  have hp := c.2.2.2.2
  have hsk := sk_le (B := B) hp
  unfold m_X12_landClause
  rw [qW_bv]
  refine qW_fr (r_blanks c.1 c.2.1 hp) (fun z e => fr_X12_blanks _ e) ?_
  intro g0 e0 f0
  have f0 : qfr [(119, 22)] h g0 := f0
  have c0 : RT B n s (sk B n p) g0 := ⟨TpR_fr c.1 f0 rfl (fun j => rfl), e0, by rw [(f0.1 119 22 rfl).1]; exact c.2.2.1, by rw [sgN_fr f0 (fun b j h1 h2 => by unfold inW; simp; omega)]; exact c.2.2.2.1, hsk⟩
  rw [qbd_e, qbd_e, e0]
  have main := r_clause33 (p := p) d hc c0 hp hsk
  -- along the words
  have along : ∀ (ws : List Nat) (k : Nat), k + ws.length = 5 → (∀ j, j < ws.length → ws[j]? = some (5 + (k + j))) → amN B n (sk B n p) [5, 6, 7, 8, 9] 0 = amN B n (sk B n p) ws k → qW (f_X12_landClause_b11_loop (nn cnt) (nn (sk B n p)) (nn k) g0) (RR B n (clP B n s cnt p)) := by
    intro ws
    induction ws with
    | nil =>
      intro k hk _ ha
      have : k = 5 := by simpa using hk
      subst this
      unfold f_X12_landClause_b11_loop
      refine qW_lpin ?_
      show qW (f_X12_landClause_b11 (nn cnt) (nn (sk B n p)) (nn 5) g0) _
      unfold f_X12_landClause_b11
      rw [if_pos (by decide), qW_up]
      rw [ha] at main
      exact main
    | cons w r ih =>
      intro k hk hw ha
      rw [List.length_cons] at hk
      have hwk : w = 5 + k := by
        have := hw 0 (by rw [List.length_cons]; omega)
        exact Option.some.inj this
      unfold f_X12_landClause_b11_loop
      refine qW_lpin ?_
      show qW (f_X12_landClause_b11 (nn cnt) (nn (sk B n p)) (nn k) g0) _
      unfold f_X12_landClause_b11
      rw [if_neg (fun q => by rw [show (5 : Int32) = nn 5 from rfl, nn_le (by omega) (by omega)] at q; omega), landWord_eq k (by omega), show qbn (some ((5 + k : Nat), g0)) (fun (c18 : Nat) (h18 : qa_M) => qpr (c18 < 19) (qbn (m_X12_stood c18 h18) (fun (c21 : Int32) (h21 : qa_M) => if c21 = 0 then qbd (nn k + 1) (fun v27 : Int32 => some (Sum.inl (nn cnt, nn (sk B n p), v27, h21))) else qup (f_X12_landClause_b33 (nn cnt) (nn (sk B n p)) (nn k) h21)))) = qpr (5 + k < 19) (qbn (m_X12_stood (5 + k) g0) (fun (c21 : Int32) (h21 : qa_M) => if c21 = 0 then qbd (nn k + 1) (fun v27 : Int32 => some (Sum.inl (nn cnt, nn (sk B n p), v27, h21))) else qup (f_X12_landClause_b33 (nn cnt) (nn (sk B n p)) (nn k) h21))) from rfl, qpr_t (by omega), r_stood c0.1 c0.2.1 hsk (by omega), qbn_s]
      cases hs : wis B n (sk B n p) (5 + k) with
      | true =>
        rw [if_neg (by decide), qW_up]
        have : amN B n (sk B n p) [5, 6, 7, 8, 9] 0 = some k := by
          rw [ha]
          unfold amN
          rw [hwk, hs, if_pos rfl]
        rw [this] at main
        exact main
      | false =>
        rw [if_pos (by decide), qbd_e, nn_add1, qW_some]
        refine ih (k + 1) (by omega) (fun j hj => ?_) ?_
        · have := hw (j + 1) (by rw [List.length_cons]; omega)
          rw [show 5 + (k + 1 + j) = 5 + (k + (j + 1)) by omega]
          exact this
        · rw [ha]
          show (if wis B n (sk B n p) w then some k else amN B n (sk B n p) r (k + 1)) = _
          rw [hwk, hs, if_neg (by decide)]
  exact along [5, 6, 7, 8, 9] 0 rfl (fun j hj => by
    have hj : j < 5 := hj
    have k5 : j = 0 ∨ j = 1 ∨ j = 2 ∨ j = 3 ∨ j = 4 := by omega
    rcases k5 with rfl | rfl | rfl | rfl | rfl <;> rfl) rfl
