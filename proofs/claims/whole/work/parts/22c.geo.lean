/-! THE LAND: what the reference counts -/
theorem lc0 : (0 : Int32).toNatClampNeg = 0 := rfl
theorem lc1 : (1 : Int32).toNatClampNeg = 1 := rfl
theorem lc2 : (2 : Int32).toNatClampNeg = 2 := rfl
theorem lc3 : (3 : Int32).toNatClampNeg = 3 := rfl
theorem lc4 : (4 : Int32).toNatClampNeg = 4 := rfl
theorem lc5 : (5 : Int32).toNatClampNeg = 5 := rfl
theorem lc6 : (6 : Int32).toNatClampNeg = 6 := rfl
theorem lc7 : (7 : Int32).toNatClampNeg = 7 := rfl
theorem lc8 : (8 : Int32).toNatClampNeg = 8 := rfl
theorem lc9 : (9 : Int32).toNatClampNeg = 9 := rfl
theorem lc10 : (10 : Int32).toNatClampNeg = 10 := rfl
def cnt (p : Nat → Bool) : Nat → Nat
  | 0 => 0
  | n + 1 => cnt p n + (if p n then 1 else 0)
theorem cnt_congr {p q : Nat → Bool} : ∀ {n : Nat}, (∀ k, k < n → p k = q k) → cnt p n = cnt q n
  | 0, _ => rfl
  | n + 1, h => by
    unfold cnt
    rw [cnt_congr (fun k hk => h k (by omega)), h n (by omega)]
theorem cnt_le {p : Nat → Bool} : ∀ {n : Nat}, cnt p n ≤ n
  | 0 => by simp [cnt]
  | n + 1 => by
    have := cnt_le (p := p) (n := n)
    unfold cnt
    split <;> omega
theorem cnt_t {p : Nat → Bool} {n : Nat} (e : p n = true) : cnt p (n + 1) = cnt p n + 1 := by show cnt p n + (if p n = true then 1 else 0) = _; rw [if_pos e]
theorem cnt_f {p : Nat → Bool} {n : Nat} (e : p n = false) : cnt p (n + 1) = cnt p n := by show cnt p n + (if p n = true then 1 else 0) = _; rw [if_neg (by rw [e]; decide)]; rfl
theorem or0 (x : Int64) : x ||| 0 = x := tb_ext (fun k _ => by rw [tb_or, tb_zero, Bool.or_false])
theorem mkm_t {p : Nat → Bool} {n : Nat} (e : p n = true) : mkm p (n + 1) = mkm p n ||| q_lshl 1 (nn n) := by show mkm p n ||| (if p n = true then _ else 0) = _; rw [if_pos e]
theorem mkm_f {p : Nat → Bool} {n : Nat} (e : p n = false) : mkm p (n + 1) = mkm p n := by show mkm p n ||| (if p n = true then _ else 0) = _; rw [if_neg (by rw [e]; decide), or0]
theorem nn_add0 (a : Nat) : nn a + 0 = nn a := nn_add a 0
theorem mb2 (b : Bool) : b = true ∨ b = false := by cases b <;> simp
def hAt (s : Sg) (i : Nat) : Nat := cN (s 2 i)
def hFar (s : Sg) (i : Nat) : Nat := cN (s 3 i)
theorem WF.hA {s : Sg} (w : WF s) {i : Nat} (h : i < gH s) : s 2 i = nn (hAt s i) ∧ hAt s i ≤ 35 := w.ha h
theorem WF.hF {s : Sg} (w : WF s) {i : Nat} (h : i < gH s) : s 3 i = nn (hFar s i) ∧ hFar s i ≤ 9 := w.hf h
theorem r_roadSet {h : qa_M} (w : WF (sg h)) {r : Nat} (hr : r < gO (sg h)) : m_X12_roadSet (nn r) h = some (roadM (sg h) r, h) := by
  have l := w.o.2
  obtain ⟨a1, a2⟩ := w.ra hr
  obtain ⟨b1, b2⟩ := w.rb hr
  unfold m_X12_roadSet f_X12_roadSet_b5_loop
  simp only [qbd_e]
  refine qlp_for0 (fun k => (nn r, mkm (onR (sg h) r) k, nn k, h)) 36 ?_ ?_
  · intro k hk
    show f_X12_roadSet_b5 (nn r) _ (nn k) h = _
    unfold f_X12_roadSet_b5
    rw [if_neg (fun q => by rw [show (36 : Int32) = nn 36 from rfl, nn_le (by omega) (by omega)] at q; omega)]
    simp only [qck_nn (show r < 6 by omega) (show 6 ≤ 2147483648 by omega), nn_cl (show r < 2147483648 by omega)]
    simp (disch := omega) only [show h.1 124 r = nn (cN (sg h 4 r)) from a1, show h.1 125 r = nn (cN (sg h 5 r)) from b1, nn_r6]
    simp (disch := omega) only [nn_d6, r_in, nn_64i, qbn_s, show h.1 124 r = nn (cN (sg h 4 r)) from a1, show h.1 125 r = nn (cN (sg h 5 r)) from b1, bi_e0, decide_eq_false_iff_not]
    rcases mb2 (onR (sg h) r k) with e | e
    · rw [mkm_t e]
      simp only [onR, Bool.and_eq_true, decide_eq_true_eq] at e
      rw [if_neg (by omega), if_neg (by omega)]
      simp [f_X12_roadSet_b81, f_X12_roadSet_b97, qbd_e, nn_add1]
    · rw [mkm_f e]
      simp only [onR, Bool.and_eq_false_iff, decide_eq_false_iff_not] at e
      by_cases e1 : cN (sg h 4 r) % 6 ≤ k % 6 ∧ k % 6 ≤ cN (sg h 5 r) % 6
      · rw [if_neg (by omega), if_pos (by omega)]
        simp [f_X12_roadSet_b80, f_X12_roadSet_b81, f_X12_roadSet_b97, qbd_e, nn_add1, or0]
      · rw [if_pos (by omega)]
        simp [f_X12_roadSet_b80, f_X12_roadSet_b81, f_X12_roadSet_b97, qbd_e, nn_add1, or0]
  · show f_X12_roadSet_b5 _ _ (nn 36) h = _
    unfold f_X12_roadSet_b5
    rw [if_pos (by decide), qup_s]
    rfl
theorem r_manySee {h : qa_M} (w : WF (sg h)) {q : Nat} (hq : q < 36) : m_X12_manySee (nn q) h = some (nn (cnt (fun i => seen (sg h) (hAt (sg h) i) q (hFar (sg h) i)) (gH (sg h))), h) := by
  have e : h.1 120 2 = nn (gH (sg h)) := w.h.1
  have l := w.h.2
  unfold m_X12_manySee f_X12_manySee_b4_loop
  simp only [qbd_e]
  refine qlp_for0 (fun k => (nn q, nn (cnt (fun i => seen (sg h) (hAt (sg h) i) q (hFar (sg h) i)) k), nn k, h)) (gH (sg h)) ?_ ?_
  · intro k hk
    obtain ⟨a1, a2⟩ := w.hA hk
    obtain ⟨b1, b2⟩ := w.hF hk
    show f_X12_manySee_b4 (nn q) _ (nn k) h = _
    unfold f_X12_manySee_b4
    simp (disch := first | omega | decide) only [qbn_x, qbv_x, qup_x, qbd_x, qck_nn, qck_ok, nn_cl, nn_add1, lx0, lx1, lx2, lx3, lx4, lx5, lx6, lx7, lx8, lx9, lx10, bi_e0, bi_e1]
    rw [e, if_neg (fun q => by rw [nn_le (by omega) (by omega)] at q; omega), show h.1 122 k = nn (hAt (sg h) k) from a1, show h.1 123 k = nn (hFar (sg h) k) from b1, r_isSeen w (Nat.lt_succ_of_le a2) hq (Nat.lt_of_le_of_lt b2 (by omega)), qbn_s]
    rcases mb2 (seen (sg h) (hAt (sg h) k) q (hFar (sg h) k)) with e | e
    · rw [cnt_t (p := fun i => seen (sg h) (hAt (sg h) i) q (hFar (sg h) i)) e, e]; simp [bi, f_X12_manySee_b40, qbd_e, nn_add1]
    · rw [cnt_f (p := fun i => seen (sg h) (hAt (sg h) i) q (hFar (sg h) i)) e, e]; simp [bi, f_X12_manySee_b40, qbd_e, nn_add1, nn_add0]
  · show f_X12_manySee_b4 _ _ (nn (gH (sg h))) h = _
    unfold f_X12_manySee_b4
    simp (disch := first | omega | decide) only [qbn_x, qbv_x, qup_x, qbd_x, qck_nn, qck_ok, nn_cl, nn_add1, lx0, lx1, lx2, lx3, lx4, lx5, lx6, lx7, lx8, lx9, lx10, bi_e0, bi_e1]
    rw [e, if_pos ((nn_le (by omega) (by omega)).mpr (by omega))]
theorem r_manyRoads {h : qa_M} (w : WF (sg h)) {q : Nat} (hq : q < 36) : m_X12_manyRoads (nn q) h = some (nn (cnt (fun r => onR (sg h) r q) (gO (sg h))), h) := by
  have e : h.1 120 3 = nn (gO (sg h)) := w.o.1
  have l := w.o.2
  unfold m_X12_manyRoads f_X12_manyRoads_b4_loop
  simp only [qbd_e]
  refine qlp_for0 (fun k => (nn q, nn (cnt (fun r => onR (sg h) r q) k), nn k, h)) (gO (sg h)) ?_ ?_
  · intro k hk
    show f_X12_manyRoads_b4 (nn q) _ (nn k) h = _
    unfold f_X12_manyRoads_b4
    simp (disch := first | omega | decide) only [qbn_x, qbv_x, qup_x, qbd_x, qck_nn, qck_ok, nn_cl, nn_add1, lx0, lx1, lx2, lx3, lx4, lx5, lx6, lx7, lx8, lx9, lx10, bi_e0, bi_e1]
    rw [e, if_neg (fun q => by rw [nn_le (by omega) (by omega)] at q; omega), r_roadSet w hk, qbn_s, r_has (by omega), qbn_s]
    rw [roadM, tb_mkm (by omega), decide_eq_true hq, Bool.true_and]
    rcases mb2 (onR (sg h) k q) with e | e
    · rw [cnt_t (p := fun r => onR (sg h) r q) e, e]; simp [bi, f_X12_manyRoads_b32, qbd_e, nn_add1]
    · rw [cnt_f (p := fun r => onR (sg h) r q) e, e]; simp [bi, f_X12_manyRoads_b32, qbd_e, nn_add1, nn_add0]
  · show f_X12_manyRoads_b4 _ _ (nn (gO (sg h))) h = _
    unfold f_X12_manyRoads_b4
    simp (disch := first | omega | decide) only [qbn_x, qbv_x, qup_x, qbd_x, qck_nn, qck_ok, nn_cl, nn_add1, lx0, lx1, lx2, lx3, lx4, lx5, lx6, lx7, lx8, lx9, lx10, bi_e0, bi_e1]
    rw [e, if_pos ((nn_le (by omega) (by omega)).mpr (by omega))]
theorem r_woodsBeside {h : qa_M} (w : WF (sg h)) {q : Nat} (hq : q < 36) : m_X12_woodsBeside (nn q) h = some (nn (cnt (fun o => thr (sg h) o && (decide (ds o q = 1) && isW (sg h) o)) 36), h) := by
  unfold m_X12_woodsBeside f_X12_woodsBeside_b4_loop
  simp only [qbd_e]
  refine qlp_for0 (fun k => (nn q, nn (cnt (fun o => thr (sg h) o && (decide (ds o q = 1) && isW (sg h) o)) k), nn k, h)) 36 ?_ ?_
  · intro k hk
    have hd := ds_lt hk hq
    show f_X12_woodsBeside_b4 (nn q) _ (nn k) h = _
    unfold f_X12_woodsBeside_b4
    rw [if_neg (fun q => by rw [show (36 : Int32) = nn 36 from rfl, nn_le (by omega) (by omega)] at q; omega), r_isThere w hk, qbn_s, r_apartOf hk hq, qbn_s, r_isWood w hk, qbn_s]
    have e1 : (nn (ds k q) = 1) ↔ ds k q = 1 := nn_eq (b := 1) (by omega) (by omega)
    rcases mb2 (thr (sg h) k && (decide (ds k q = 1) && isW (sg h) k)) with e | e
    · rw [cnt_t (p := fun o => thr (sg h) o && (decide (ds o q = 1) && isW (sg h) o)) e]
      simp only [Bool.and_eq_true, decide_eq_true_eq] at e
      rw [e.1, e.2.2, if_pos (e1.mpr e.2.1)]
      simp [bi, f_X12_woodsBeside_b41, qbd_e, nn_add1]
    · rw [cnt_f (p := fun o => thr (sg h) o && (decide (ds o q = 1) && isW (sg h) o)) e]
      by_cases e2 : ds k q = 1
      · rw [if_pos (e1.mpr e2)]
        rw [decide_eq_true e2, Bool.true_and] at e
        rcases mb2 (thr (sg h) k) with a | a <;> rcases mb2 (isW (sg h) k) with b | b <;> rw [a, b] at e ⊢ <;> simp [bi, f_X12_woodsBeside_b40, f_X12_woodsBeside_b41, qbd_e, nn_add1, nn_add0] at e ⊢
      · rw [if_neg (fun q => e2 (e1.mp q))]
        rcases mb2 (thr (sg h) k) with a | a <;> rw [a] <;> simp [bi, f_X12_woodsBeside_b40, f_X12_woodsBeside_b41, qbd_e, nn_add1, nn_add0]
  · show f_X12_woodsBeside_b4 _ _ (nn 36) h = _
    unfold f_X12_woodsBeside_b4
    rw [if_pos (by decide), qup_s]
/-! sees and hidden -/
theorem r_sees {h : qa_M} (w : WF (sg h)) {x : Int32} : m_X12_sees x h = some (if 0 ≤ x.toInt ∧ x.toInt < gH (sg h) then seesM (sg h) (hAt (sg h) (cN x)) (hFar (sg h) (cN x)) else -1, h) := by
  have l := w.h.2
  unfold m_X12_sees
  rw [r_isHill w, qbn_s]
  simp only [bi_e0, decide_eq_false_iff_not]
  by_cases c : 0 ≤ x.toInt ∧ x.toInt < gH (sg h)
  · obtain ⟨k, hk, rfl⟩ := nn_of c.1
    rw [nn_toInt hk] at c
    have hk2 : k < gH (sg h) := by omega
    obtain ⟨a1, a2⟩ := w.hA hk2
    obtain ⟨b1, b2⟩ := w.hF hk2
    rw [nn_toInt hk, if_neg (fun q => q c), if_pos c, cN_nn hk]
    simp (disch := first | omega | decide) only [qbn_x, qbv_x, qup_x, qbd_x, qck_nn, qck_ok, nn_cl, nn_add1, lx0, lx1, lx2, lx3, lx4, lx5, lx6, lx7, lx8, lx9, lx10, bi_e0, bi_e1]
    rw [show h.1 122 k = nn (hAt (sg h) k) from a1, show h.1 123 k = nn (hFar (sg h) k) from b1, r_seenFrom w (Nat.lt_succ_of_le a2) (Nat.lt_of_le_of_lt b2 (by omega)), qbn_s]
  · rw [if_pos c, if_neg c]
def hidM (s : Sg) : Nat → Int64
  | 0 => mkm (thr s) 36
  | n + 1 => hidM s n &&& (seesM s (hAt s n) (hFar s n) ^^^ (-1))
theorem r_hidden {h : qa_M} (w : WF (sg h)) : m_X12_hidden h = some (if 0 < gC (sg h) then hidM (sg h) (gH (sg h)) else -1, h) := by
  have e : h.1 120 2 = nn (gH (sg h)) := w.h.1
  have l := w.h.2
  have lp2 : f_X12_hidden_b47_loop (mkm (thr (sg h)) 36) (nn 0) h = some (hidM (sg h) (gH (sg h)), h) := by
    unfold f_X12_hidden_b47_loop
    refine qlp_for0 (fun k => (hidM (sg h) k, nn k, h)) (gH (sg h)) ?_ ?_
    · intro k hk
      obtain ⟨a1, a2⟩ := w.hA hk
      obtain ⟨b1, b2⟩ := w.hF hk
      show f_X12_hidden_b47 _ (nn k) h = _
      unfold f_X12_hidden_b47
      simp (disch := first | omega | decide) only [qbn_x, qbv_x, qup_x, qbd_x, qck_nn, qck_ok, nn_cl, nn_add1, lx0, lx1, lx2, lx3, lx4, lx5, lx6, lx7, lx8, lx9, lx10, bi_e0, bi_e1]
      rw [e, if_neg (fun q => by rw [nn_le (by omega) (by omega)] at q; omega), show h.1 122 k = nn (hAt (sg h) k) from a1, show h.1 123 k = nn (hFar (sg h) k) from b1, r_seenFrom w (Nat.lt_succ_of_le a2) (Nat.lt_of_le_of_lt b2 (by omega)), qbn_s]
      rfl
    · show f_X12_hidden_b47 _ (nn (gH (sg h))) h = _
      unfold f_X12_hidden_b47
      simp (disch := first | omega | decide) only [qbn_x, qbv_x, qup_x, qbd_x, qck_nn, qck_ok, nn_cl, nn_add1, lx0, lx1, lx2, lx3, lx4, lx5, lx6, lx7, lx8, lx9, lx10, bi_e0, bi_e1]
      rw [e, if_pos ((nn_le (by omega) (by omega)).mpr (by omega))]
  unfold m_X12_hidden
  rw [r_isLand w, qbn_s]
  simp only [bi_e0, decide_eq_false_iff_not]
  by_cases c : 0 < gC (sg h)
  · rw [if_neg (fun q => q c), if_pos c]
    simp only [qbd_e]
    unfold f_X12_hidden_b15_loop
    refine qlp_for0 (fun k => (mkm (thr (sg h)) k, nn k, h)) 36 ?_ ?_
    · intro k hk
      show f_X12_hidden_b15 _ (nn k) h = _
      unfold f_X12_hidden_b15
      rw [if_neg (fun q => by rw [show (36 : Int32) = nn 36 from rfl, nn_le (by omega) (by omega)] at q; omega), r_isThere w hk, qbn_s]
      simp only [bi_e0, mkm]
      rcases Bool.eq_false_or_eq_true (thr (sg h) k) with e1 | e1 <;> simp [e1, f_X12_hidden_b37, qbd_e, nn_add1]
    · show f_X12_hidden_b15 _ (nn 36) h = _
      unfold f_X12_hidden_b15 f_X12_hidden_b45
      rw [if_pos (by decide), qbd_e]
      show qup (f_X12_hidden_b47_loop (mkm (thr (sg h)) 36) (nn 0) h) = _
      rw [lp2, qup_s]
  · rw [if_pos c, if_neg c]
