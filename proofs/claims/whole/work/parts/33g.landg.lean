/-! A LAND IS READ: the reference's clauses -/
theorem RF_fs {B : Nat → Nat} {n p q c : Nat} {s : Sg} {h : qa_M} (r : RT B n s p h) (hq : q ≤ n) (hc : c ≤ 5) : m_X12_fails (nn c) (nn q) h = some (qw_I h 119 22 (nn (ER q c))) ∧ RF B n s (ER q c) (qw_I h 119 22 (nn (ER q c))) := by
  refine ⟨r_fails r.2.2.1, ⟨TpR_fr r.1 (qfr_Ik (L := [(119, 23)]) rfl (by simp) qfr_rf) rfl (fun j => rfl), ⟨p, r.2.2.2.2, by rw [wI_ne (by omega)]; exact r.2.1⟩, wI_at⟩, ER_b hq hc, fun j hj => by rw [wI_ne (by omega)]; exact r.at hj⟩
theorem r_isNewHill {B : Nat → Nat} {n p q : Nat} {s : Sg} {h : qa_M} (w : WF s) (c : RT B n s p h) (hq : q < 36) : m_X12_isNewHill (nn q) h = some (bi (!decide (hon s q = -1)), h) := by
  have l8 := w.h.2
  have e2 : h.1 132 2 = nn (gH s) := (c.at (by omega)).trans w.h.1
  have e134 : ∀ i, h.1 134 i = s 2 i := fun i => by
    have := sgN_i (h := h) (i := 2) (j := i) (by omega) (by omega)
    rw [c.2.2.2.1] at this
    exact this
  unfold m_X12_isNewHill f_X12_isNewHill_b4_loop
  rw [qbd_e, qbd_e]
  have main := qlp_for0 (b := fun sz : Int32 × Int32 × Int32 × qa_M => f_X12_isNewHill_b4 sz.1 sz.2.1 sz.2.2.1 sz.2.2.2) (r := (bi (exN (fun i => decide (s 2 i = nn q)) (gH s)), h)) (fun k => (nn q, bi (exN (fun i => decide (s 2 i = nn q)) k), nn k, h)) (gH s) ?_ ?_
  · have hx : exN (fun i => decide (s 2 i = nn q)) (gH s) = !decide (hon s q = -1) := by
      unfold hon
      rw [Bool.eq_iff_iff, exN_iff, Bool.not_eq_true', decide_eq_false_iff_not, fstI_m1 (by omega)]
      constructor
      · rintro ⟨i, hi, hd⟩ q
        rw [q i hi] at hd
        cases hd
      · intro x
        refine Classical.byContradiction (fun y => x (fun j hj => ?_))
        cases z : decide (s 2 j = nn q) with
        | false => rfl
        | true => exact absurd ⟨j, hj, z⟩ y
    rw [hx] at main
    exact main
  · intro k hk
    show f_X12_isNewHill_b4 (nn q) (bi (exN (fun i => decide (s 2 i = nn q)) k)) (nn k) h = _
    unfold f_X12_isNewHill_b4
    rw [qck_ok (i := 2) (by decide), show (2 : Int32).toNatClampNeg = 2 from rfl, e2, if_neg (fun q => by rw [nn_le (by omega) (by omega)] at q; omega)]
    unfold f_X12_isNewHill_b28 f_X12_isNewHill_b33
    show (if bi (exN (fun i => decide (s 2 i = nn q)) k) = 0 then _ else _) = some (Sum.inl (nn q, bi (exN (fun i => decide (s 2 i = nn q)) k || decide (s 2 k = nn q)), nn (k + 1), h))
    cases e : exN (fun i => decide (s 2 i = nn q)) k with
    | true =>
      rw [if_neg (by decide), qbd_e, qbd_e, nn_add1]
      rfl
    | false =>
      rw [if_pos (by decide), qck_nn (by omega) (by omega), nn_cl (by omega), e134]
      by_cases c1 : s 2 k = nn q
      · rw [if_pos c1, qbd_e, qbd_e, nn_add1, decide_eq_true c1]
        rfl
      · rw [if_neg c1, qbd_e, qbd_e, nn_add1, decide_eq_false c1]
        rfl
  · show f_X12_isNewHill_b4 (nn q) (bi (exN (fun i => decide (s 2 i = nn q)) (gH s))) (nn (gH s)) h = _
    unfold f_X12_isNewHill_b4
    rw [qck_ok (i := 2) (by decide), show (2 : Int32).toNatClampNeg = 2 from rfl, e2, if_pos ((nn_le (by omega) (by omega)).mpr (by omega)), qpr_t bi_01, qup_s]
theorem r_hill47F {B : Nat → Nat} {n f : Nat} {x y : Int32} {s : Sg} {h : qa_M} (w : WF s) (h8 : gH s < 8) (rf : RF B n s f h) : qW (f_X12_hill_b47 x y h) (RG B n f) := by
  have e2 : h.1 132 2 = nn (gH s) := (rf.2.2 2 (by omega)).trans w.h.1
  unfold f_X12_hill_b47
  simp only [show (2 : Int32).toNatClampNeg = 2 from rfl]
  rw [qck_ok (i := 2) (by decide), e2, qck_nn (by omega) (by omega), qbd_e, qck_ok (i := 2) (by decide)]
  have f1 : qfr [(134, 0)] h (qw_I h 134 (nn (gH s)).toNatClampNeg ((6 * y) + x)) := qfr_I0 rfl (by simp) qfr_rf
  have rf1 : RF B n s f (qw_I h 134 (nn (gH s)).toNatClampNeg ((6 * y) + x)) := ⟨RG_up rf.1 f1 rfl rfl rfl (fun j => rfl), rf.2.1, fun j hj => by rw [(f1.1 132 j rfl).1]; exact rf.2.2 j hj⟩
  refine r_amF rf1 ?_
  intro g rg
  rw [wI_ne (by omega), e2, qck_nn (by omega) (by omega), qbd_e, qck_ok (i := 2) (by decide), qck_ok (i := 2) (by decide), qbd_e, qW_some]
  exact RG_up rg.1 (W := [(132, 0), (135, 0)]) (qfr_I0 rfl (by simp) (qfr_I0 rfl (by simp) qfr_rf)) rfl rfl rfl (fun j => rfl)
theorem r_hill {B : Nat → Nat} {n p : Nat} {s : Sg} {h : qa_M} (w : WF s) (hC : 2 ≤ gC s) (hR : 2 ≤ gR s) (h8 : gH s < 8) (c : RT B n s p h) : qW (m_X12_hill h) (RR B n (cHill B n s p)) := by
  have hp := c.2.2.2.2
  have lc := w.c.2
  have lr := w.r.2
  have hsk := sk_le (B := B) hp
  unfold m_X12_hill
  rw [qW_bv]
  refine qW_fr (r_blanks c.1 c.2.1 hp) (fun z e => fr_X12_blanks _ e) ?_
  intro g0 e0 f0
  have f0 : qfr [(119, 22)] h g0 := f0
  have c0 : RT B n s (sk B n p) g0 := ⟨TpR_fr c.1 f0 rfl (fun j => rfl), e0, by rw [(f0.1 119 22 rfl).1]; exact c.2.2.1, by rw [sgN_fr f0 (fun b j h1 h2 => by unfold inW; simp; omega)]; exact c.2.2.2.1, hsk⟩
  rw [qbd_e, e0]
  have hsq : pSq B n s (sk B n p) = pSq B n s p := by unfold pSq; rw [pNum_sk]
  refine r_sq (K := fun v14 v20 h17 => if (h17.1 119 22) = 0 then (qbn (m_X12_isNewHill (((6 : Int32) * v20) + v14) h17) (fun (c35 : Int32) (h35 : qa_M) => if c35 = 0 then (f_X12_hill_b47 v14 v20 h35) else (qbv (m_X12_fails (5 : Int32) (nn (sk B n p)) h35) (fun h44 : qa_M => f_X12_hill_b47 v14 v20 h44)))) else (f_X12_hill_b47 v14 v20 h17)) w hC hR c0 ?_ ?_
  · intro x y f g q rf
    rw [hsq] at q
    have e0 : cHill B n s p = .inl f := by simp only [cHill, pBd, q]
    rw [if_neg rf.n0, e0]
    exact r_hill47F w h8 rf
  · intro x y e g q rs
    rw [hsq] at q
    have ok := pSq_ok q hp hC hR
    rw [if_pos rs.2.2.1, show (6 : Int32) = nn 6 from rfl, nn_mul, nn_add, r_isNewHill w rs (by omega), qbn_s]
    by_cases ch : hon s (6 * y + x) = -1
    · rw [decide_eq_true ch, if_pos (by decide)]
      have e2 : g.1 132 2 = nn (gH s) := (rs.at (by omega)).trans w.h.1
      unfold f_X12_hill_b47
      simp only [show (2 : Int32).toNatClampNeg = 2 from rfl]
      rw [qck_ok (i := 2) (by decide), e2, qck_nn (by omega) (by omega), qbd_e, qck_ok (i := 2) (by decide), nn_cl (by omega), show (6 : Int32) = nn 6 from rfl, nn_mul, nn_add]
      have f1 : qfr [(134, 0)] g (qw_I g 134 (gH s) (nn (6 * y + x))) := qfr_I0 rfl (by simp) qfr_rf
      have g1 : gH (upS s 2 (gH s) (nn (6 * y + x))) = gH s := gH_up (by omega)
      have rs1 : RT B n (upS s 2 (gH s) (nn (6 * y + x))) e (qw_I g 134 (gH s) (nn (6 * y + x))) := RT_up rs f1 rfl rfl rfl (fun j => rfl) (by rw [show (134 : Nat) = 132 + 2 from rfl, sgN_w (by omega) (by omega), rs.2.2.2.1])
      refine r_am (lo := 1) (hi := 9) rs1 (by omega) (by omega) ?_ ?_
      · intro v f g2 q2 rf2
        have e0 : cHill B n s p = .inl f := by simp only [cHill, pBd, q]; rw [if_pos ch]; simp only [q2]
        rw [e0, wI_ne (by omega), e2, qck_nn (by omega) (by omega), qbd_e, qck_ok (i := 2) (by decide), qck_ok (i := 2) (by decide), qbd_e, qW_some]
        exact RG_up rf2.1 (W := [(132, 0), (135, 0)]) (qfr_I0 rfl (by simp) (qfr_I0 rfl (by simp) qfr_rf)) rfl rfl rfl (fun j => rfl)
      · intro v e2' g2 q2 rs2
        have e0 : cHill B n s p = .inr (hlS s (6 * y + x) v, e2') := by simp only [cHill, pBd, q]; rw [if_pos ch]; simp only [q2]
        have e22 : g2.1 132 2 = nn (gH s) := by
          rw [rs2.at (by omega), upS_ne (by omega)]
          exact w.h.1
        rw [e0, wI_ne (by omega), e2, qck_nn (by omega) (by omega), qbd_e, qck_ok (i := 2) (by decide), qck_ok (i := 2) (by decide), qbd_e, qW_some, nn_cl (by omega), wI_ne (by omega), e22, nn_add1]
        refine RT_up rs2 (W := [(132, 0), (135, 0)]) (qfr_I0 rfl (by simp) (qfr_I0 rfl (by simp) qfr_rf)) rfl rfl rfl (fun j => rfl) ?_
        rw [show (132 : Nat) = 132 + 0 from rfl, sgN_w (by omega) (by omega), show (135 : Nat) = 132 + 3 from rfl, sgN_w (by omega) (by omega), rs2.2.2.2.1]
        rfl
    · rw [decide_eq_false ch, if_neg (by decide)]
      obtain ⟨fe, rf⟩ := RF_fs (q := sk B n p) (c := 5) rs hsk (by omega)
      rw [show (5 : Int32) = nn 5 from rfl, fe, qbv_s]
      have e0 : cHill B n s p = .inl (ER (sk B n p) 5) := by simp only [cHill, pBd, q]; rw [if_neg ch]
      rw [e0]
      exact r_hill47F w h8 rf
theorem r_road60F {B : Nat → Nat} {n f : Nat} {x y x2 y2 : Int32} {s : Sg} {h : qa_M} (w : WF s) (h6 : gO s < 6) (rf : RF B n s f h) : qW (f_X12_road_b60 x y x2 y2 h) (RG B n f) := by
  have e3 : h.1 132 3 = nn (gO s) := (rf.2.2 3 (by omega)).trans w.o.1
  unfold f_X12_road_b60
  simp only [show (3 : Int32).toNatClampNeg = 3 from rfl]
  rw [qck_ok (i := 3) (by decide), e3, qck_nn (by omega) (by omega), qbd_e, qck_ok (i := 3) (by decide), wI_ne (by omega), e3, qck_nn (by omega) (by omega), qbd_e, qck_ok (i := 3) (by decide), qck_ok (i := 3) (by decide), qbd_e, qW_some]
  exact RG_up rf.1 (W := [(132, 0), (136, 0), (137, 0)]) (qfr_I0 rfl (by simp) (qfr_I0 rfl (by simp) (qfr_I0 rfl (by simp) qfr_rf))) rfl rfl rfl (fun j => rfl)
theorem r_road {B : Nat → Nat} {n p : Nat} {s : Sg} {h : qa_M} (w : WF s) (hC : 2 ≤ gC s) (hR : 2 ≤ gR s) (h6 : gO s < 6) (c : RT B n s p h) : qW (m_X12_road h) (RR B n (cRoad B n s p)) := by
  have hp := c.2.2.2.2
  have lc := w.c.2
  have lr := w.r.2
  have hsk := sk_le (B := B) hp
  unfold m_X12_road
  rw [qW_bv]
  refine qW_fr (r_blanks c.1 c.2.1 hp) (fun z e => fr_X12_blanks _ e) ?_
  intro g0 e0 f0
  have f0 : qfr [(119, 22)] h g0 := f0
  have c0 : RT B n s (sk B n p) g0 := ⟨TpR_fr c.1 f0 rfl (fun j => rfl), e0, by rw [(f0.1 119 22 rfl).1]; exact c.2.2.1, by rw [sgN_fr f0 (fun b j h1 h2 => by unfold inW; simp; omega)]; exact c.2.2.2.1, hsk⟩
  rw [qbd_e, e0]
  have hbx : pBox B n s (sk B n p) = pBox B n s p := by unfold pBox pSq; rw [pNum_sk]
  refine r_bx (K := fun v14 v20 v26 v33 h30 => if (h30.1 119 22) = 0 then (if v14 = v26 then (f_X12_road_b60 v14 v20 v26 v33 h30) else (if v20 = v33 then (f_X12_road_b60 v14 v20 v26 v33 h30) else (qbv (m_X12_fails (5 : Int32) (nn (sk B n p)) h30) (fun h57 : qa_M => f_X12_road_b60 v14 v20 v26 v33 h57)))) else (f_X12_road_b60 v14 v20 v26 v33 h30)) w hC hR c0 ?_ ?_
  · intro x y x2 y2 f g q rf
    rw [hbx] at q
    have e0 : cRoad B n s p = .inl f := by simp only [cRoad, pBd, q]
    rw [if_neg rf.n0, e0]
    exact r_road60F w h6 rf
  · intro x y x2 y2 e g q rs
    rw [hbx] at q
    have ok := pBox_ok q hp hC hR
    have good : (x = x2 ∨ y = y2) → qW (f_X12_road_b60 (nn x) (nn y) (nn x2) (nn y2) g) (RR B n (cRoad B n s p)) := by
      intro hg
      have e0 : cRoad B n s p = .inr (rdS s (6 * y + x) (6 * y2 + x2), e) := by simp only [cRoad, pBd, q]; rw [if_pos hg]
      rw [e0]
      have e3 : g.1 132 3 = nn (gO s) := (rs.at (by omega)).trans w.o.1
      unfold f_X12_road_b60
      simp only [show (3 : Int32).toNatClampNeg = 3 from rfl]
      rw [qck_ok (i := 3) (by decide), e3, qck_nn (by omega) (by omega), qbd_e, qck_ok (i := 3) (by decide), wI_ne (by omega), e3, qck_nn (by omega) (by omega), qbd_e, qck_ok (i := 3) (by decide), qck_ok (i := 3) (by decide), qbd_e, qW_some, nn_cl (by omega), wI_ne (by omega), wI_ne (by omega), e3, nn_add1, show (6 : Int32) = nn 6 from rfl, nn_mul, nn_add, nn_mul, nn_add]
      refine RT_up rs (W := [(132, 0), (136, 0), (137, 0)]) (qfr_I0 rfl (by simp) (qfr_I0 rfl (by simp) (qfr_I0 rfl (by simp) qfr_rf))) rfl rfl rfl (fun j => rfl) ?_
      rw [show (132 : Nat) = 132 + 0 from rfl, sgN_w (by omega) (by omega), show (137 : Nat) = 132 + 5 from rfl, sgN_w (by omega) (by omega), show (136 : Nat) = 132 + 4 from rfl, sgN_w (by omega) (by omega), rs.2.2.2.1]
      rfl
    rw [if_pos rs.2.2.1]
    by_cases c1 : x = x2
    · rw [if_pos (by rw [c1])]
      exact good (.inl c1)
    · rw [if_neg (fun q => by rw [nn_eq (by omega) (by omega)] at q; exact c1 q)]
      by_cases c2 : y = y2
      · rw [if_pos (by rw [c2])]
        exact good (.inr c2)
      · rw [if_neg (fun q => by rw [nn_eq (by omega) (by omega)] at q; exact c2 q)]
        obtain ⟨fe, rf⟩ := RF_fs (q := sk B n p) (c := 5) rs hsk (by omega)
        rw [show (5 : Int32) = nn 5 from rfl, fe, qbv_s]
        have e0 : cRoad B n s p = .inl (ER (sk B n p) 5) := by simp only [cRoad, pBd, q]; rw [if_neg (by omega)]
        rw [e0]
        exact r_road60F w h6 rf
theorem r_sort66F {B : Nat → Nat} {n f : Nat} {x : Int32} {s : Sg} {h : qa_M} (w : WF s) (h4 : gS s < 4) (rf : RF B n s f h) : qW (f_X12_sorted_b66 x h) (RG B n f) := by
  have e3 : h.1 132 4 = nn (gS s) := (rf.2.2 4 (by omega)).trans w.s.1
  unfold f_X12_sorted_b66
  simp only [show (4 : Int32).toNatClampNeg = 4 from rfl]
  rw [qck_ok (i := 4) (by decide), e3, qck_nn (by omega) (by omega), qbd_e, qck_ok (i := 4) (by decide), qck_ok (i := 4) (by decide), qbd_e, qW_some]
  exact RG_up rf.1 (W := [(132, 0), (138, 0)]) (qfr_I0 rfl (by simp) (qfr_I0 rfl (by simp) qfr_rf)) rfl rfl rfl (fun j => rfl)
theorem r_sorted {B : Nat → Nat} {n p : Nat} {s : Sg} {h : qa_M} (w : WF s) (h4 : gS s < 4) (c : RT B n s p h) : qW (m_X12_sorted h) (RR B n (cSort B n s p)) := by
  have hp := c.2.2.2.2
  have l4 := w.n
  have hsk := sk_le (B := B) hp
  unfold m_X12_sorted
  rw [qW_bv]
  refine qW_fr (r_blanks c.1 c.2.1 hp) (fun z e => fr_X12_blanks _ e) ?_
  intro g0 e0 f0
  have f0 : qfr [(119, 22)] h g0 := f0
  have c0 : RT B n s (sk B n p) g0 := ⟨TpR_fr c.1 f0 rfl (fun j => rfl), e0, by rw [(f0.1 119 22 rfl).1]; exact c.2.2.1, by rw [sgN_fr f0 (fun b j h1 h2 => by unfold inW; simp; omega)]; exact c.2.2.2.1, hsk⟩
  rw [qbd_e, e0]
  refine r_am (lo := 0) (hi := 4) c0 (by omega) (by omega) ?_ ?_
  · intro x f g q rf
    rw [pNum_sk] at q
    have e0 : cSort B n s p = .inl f := by simp only [cSort, pBd, q]
    rw [qbd_e, qbd_e, qbd_e, e0]
    have e3 : g.1 132 4 = nn (gS s) := (rf.2.2 4 (by omega)).trans w.s.1
    unfold f_X12_sorted_b21_loop
    refine qW_for (gS s) (fun k z => ∃ y, z = (nn (sk B n p), x, y, nn k, g)) ?_ ?_ (Nat.zero_le _) ⟨x, rfl⟩
    · rintro k z hk ⟨y, rfl⟩
      show qW (f_X12_sorted_b21 (nn (sk B n p)) x y (nn k) g) _
      unfold f_X12_sorted_b21
      rw [qck_ok (i := 4) (by decide), show (4 : Int32).toNatClampNeg = 4 from rfl, e3, if_neg (fun q => by rw [nn_le (by omega) (by omega)] at q; omega), qck_nn (by omega) (by omega), qbd_e, qbd_e, nn_add1, qW_some]
      exact ⟨_, rfl⟩
    · rintro z ⟨y, rfl⟩
      show qW (f_X12_sorted_b21 (nn (sk B n p)) x y (nn (gS s)) g) _
      unfold f_X12_sorted_b21 f_X12_sorted_b48
      rw [qck_ok (i := 4) (by decide), show (4 : Int32).toNatClampNeg = 4 from rfl, e3, if_pos ((nn_le (by omega) (by omega)).mpr (by omega)), if_neg rf.n0, qW_up]
      exact r_sort66F w h4 rf
  · intro v e g q rs
    rw [pNum_sk] at q
    have ok := pNum_ok q hp
    rw [qbd_e, qbd_e, qbd_e]
    have e3 : g.1 132 4 = nn (gS s) := (rs.at (by omega)).trans w.s.1
    have e138 : ∀ i, g.1 138 i = s 6 i := fun i => by
      have := sgN_i (h := g) (i := 6) (j := i) (by omega) (by omega)
      rw [rs.2.2.2.1] at this
      exact this
    unfold f_X12_sorted_b21_loop
    refine qW_for (gS s) (fun k z => z = (nn (sk B n p), nn v, nn (v + sumN (mny s) k), nn k, g)) ?_ ?_ (Nat.zero_le _) rfl
    · rintro k z hk rfl
      show qW (f_X12_sorted_b21 (nn (sk B n p)) (nn v) (nn (v + sumN (mny s) k)) (nn k) g) _
      unfold f_X12_sorted_b21
      rw [qck_ok (i := 4) (by decide), show (4 : Int32).toNatClampNeg = 4 from rfl, e3, if_neg (fun q => by rw [nn_le (by omega) (by omega)] at q; omega), qck_nn (by omega) (by omega), qbd_e, qbd_e, nn_add1, qW_some, nn_cl (by omega), e138, (w.m hk).1, nn_add]
      show (nn (sk B n p), nn v, nn (v + sumN (mny s) k + mny s k), nn (k + 1), g) = (nn (sk B n p), nn v, nn (v + (sumN (mny s) k + mny s k)), nn (k + 1), g)
      rw [Nat.add_assoc]
    · rintro z rfl
      show qW (f_X12_sorted_b21 (nn (sk B n p)) (nn v) (nn (v + sumN (mny s) (gS s))) (nn (gS s)) g) _
      unfold f_X12_sorted_b21 f_X12_sorted_b48
      rw [show sumN (mny s) (gS s) = nT s from rfl, qck_ok (i := 4) (by decide), show (4 : Int32).toNatClampNeg = 4 from rfl, e3, if_pos ((nn_le (by omega) (by omega)).mpr (by omega)), if_pos rs.2.2.1, qW_up]
      by_cases c1 : nT s + v ≤ 4
      · have e0 : cSort B n s p = .inr (srS s v, e) := by simp only [cSort, pBd, q]; rw [if_pos c1]
        rw [e0, if_pos (by exact (nn_le (b := 4) (by omega) (by omega)).mpr (by omega))]
        unfold f_X12_sorted_b66
        simp only [show (4 : Int32).toNatClampNeg = 4 from rfl]
        rw [qck_ok (i := 4) (by decide), e3, qck_nn (by omega) (by omega), qbd_e, qck_ok (i := 4) (by decide), qck_ok (i := 4) (by decide), qbd_e, qW_some, nn_cl (by omega), wI_ne (by omega), e3, nn_add1]
        refine RT_up rs (W := [(132, 0), (138, 0)]) (qfr_I0 rfl (by simp) (qfr_I0 rfl (by simp) qfr_rf)) rfl rfl rfl (fun j => rfl) ?_
        rw [show (132 : Nat) = 132 + 0 from rfl, sgN_w (by omega) (by omega), show (138 : Nat) = 132 + 6 from rfl, sgN_w (by omega) (by omega), rs.2.2.2.1]
        rfl
      · have e0 : cSort B n s p = .inl (ER (sk B n p) 5) := by simp only [cSort, pBd, q]; rw [if_neg c1]
        obtain ⟨fe, rf⟩ := RF_fs (q := sk B n p) (c := 5) rs hsk (by omega)
        rw [e0, if_neg (fun q => by rw [show (4 : Int32) = nn 4 from rfl, nn_le (by omega) (by omega)] at q; omega), show (5 : Int32) = nn 5 from rfl, fe, qbv_s]
        exact r_sort66F w h4 rf
