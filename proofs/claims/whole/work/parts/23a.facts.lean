/-! WHAT A LAW ASKS OF A SQUARE -/
def fct (s : Sg) (q : Nat) : Nat → Nat
  | 0 => q % 6
  | 1 => q / 6
  | 2 => cnt (fun o => thr s o && (decide (ds o q = 1) && isW s o)) 36
  | 3 => cnt (fun i => seen s (hAt s i) q (hFar s i)) (gH s)
  | 4 => if hon s q = -1 then 0 else 1
  | 5 => cnt (fun r => onR s r q) (gO s)
  | _ => min (min (q % 6) (gC s - 1 - q % 6)) (min (q / 6) (gR s - 1 - q / 6))
theorem nn_sub1 {a : Nat} (h : 1 ≤ a) : nn a - 1 = nn (a - 1) := nn_sub (b := 1) h
theorem sg_J {h : qa_M} {b j : Nat} {v : Int64} : sg (qw_J h b j v) = sg h := rfl
theorem wI_at {h : qa_M} {a k : Nat} {v : Int32} : (qw_I h a k v).1 a k = v := if_pos ⟨rfl, rfl⟩
theorem wI_ne {h : qa_M} {a k b j : Nat} {v : Int32} (e : ¬ (b = a ∧ j = k)) : (qw_I h a k v).1 b j = h.1 b j := if_neg e
theorem wI_2 {h : qa_M} {a k : Nat} {v : Int32} : (qw_I h a k v).2 = h.2 := rfl
theorem wJ_at {h : qa_M} {a k : Nat} {v : Int64} : (qw_J h a k v).2.1 a k = v := if_pos ⟨rfl, rfl⟩
theorem wJ_ne {h : qa_M} {a k b j : Nat} {v : Int64} (e : ¬ (b = a ∧ j = k)) : (qw_J h a k v).2.1 b j = h.2.1 b j := if_neg e
theorem wJ_1 {h : qa_M} {a k : Nat} {v : Int64} : (qw_J h a k v).1 = h.1 := rfl
theorem wJ_22 {h : qa_M} {a k : Nat} {v : Int64} : (qw_J h a k v).2.2 = h.2.2 := rfl
/-- the reference's row of facts -/
theorem r_asks {h : qa_M} (w : WF (sg h)) {q : Nat} (hq : q < 36) (ht : thr (sg h) q = true) : qW (m_X12_asks (nn q) h) (fun g => ∀ j, j < 7 → g.2.1 149 j = (nn (fct (sg h) q j)).toInt64) := by
  have e0 : h.1 120 0 = nn (gC (sg h)) := w.c.1
  have e1 : h.1 120 1 = nn (gR (sg h)) := w.r.1
  have l0 := w.c.2
  have l1 := w.r.2
  unfold thr at ht
  rw [Bool.and_eq_true, decide_eq_true_eq, decide_eq_true_eq] at ht
  have bX : q % 6 < 6 := by omega
  have bY : q / 6 < 6 := by omega
  have key : ∀ (a : Nat), a = min (q % 6) (q / 6) → qW (f_X12_asks_b20 (nn q) (nn (q % 6)) (nn (q / 6)) (nn a) h) (fun g => ∀ j, j < 7 → g.2.1 149 j = (nn (fct (sg h) q j)).toInt64) := by
    intro a ha
    unfold f_X12_asks_b20
    simp (disch := first | omega | decide) only [qbn_x, qbv_x, qup_x, qbd_x, qck_nn, qck_ok, nn_cl, nn_add1, lx0, lx1, lx2, lx3, lx4, lx5, lx6, lx7, lx8, lx9, lx10, bi_e0, bi_e1]
    rw [e0, e1, nn_sub1 (by omega), nn_sub (by omega), nn_sub1 (by omega), nn_sub (by omega)]
    rw [r_woodsBeside (h := qw_J (qw_J h 149 0 (nn (q % 6)).toInt64) 149 1 (nn (q / 6)).toInt64) w hq, qbn_s]
    rw [r_manySee (h := qw_J (qw_J (qw_J h 149 0 (nn (q % 6)).toInt64) 149 1 (nn (q / 6)).toInt64) 149 2 _) w hq, qbn_s]
    rw [r_hillOn (h := qw_J (qw_J (qw_J (qw_J h 149 0 (nn (q % 6)).toInt64) 149 1 (nn (q / 6)).toInt64) 149 2 _) 149 3 _) w, qbn_s]
    simp only [sg_J]
    obtain ⟨H, hH⟩ : ∃ H, H = qw_J (qw_J (qw_J (qw_J h 149 0 (nn (q % 6)).toInt64) 149 1 (nn (q / 6)).toInt64) 149 2 (nn (cnt (fun o => thr (sg h) o && (decide (ds o q = 1) && isW (sg h) o)) 36)).toInt64) 149 3 (nn (cnt (fun i => seen (sg h) (hAt (sg h) i) q (hFar (sg h) i)) (gH (sg h)))).toInt64 := ⟨_, rfl⟩
    rw [← hH]
    have hs : sg H = sg h := by rw [hH]; rfl
    have v0 : H.2.1 149 0 = (nn (q % 6)).toInt64 := by rw [hH]; rfl
    have v1 : H.2.1 149 1 = (nn (q / 6)).toInt64 := by rw [hH]; rfl
    have v2 : H.2.1 149 2 = (nn (fct (sg h) q 2)).toInt64 := by rw [hH]; rfl
    have v3 : H.2.1 149 3 = (nn (fct (sg h) q 3)).toInt64 := by rw [hH]; rfl
    have fin : ∀ (v : Int64), v = (nn (fct (sg h) q 4)).toInt64 → qW (f_X12_asks_b105 (nn q) (nn a) (nn (gC (sg h) - 1 - q % 6)) (nn (gR (sg h) - 1 - q / 6)) 4 v H) (fun g => ∀ j, j < 7 → g.2.1 149 j = (nn (fct (sg h) q j)).toInt64) := by
      intro v hv
      unfold f_X12_asks_b105
      simp (disch := first | omega | decide) only [qbn_x, qbv_x, qup_x, qbd_x, qck_nn, qck_ok, nn_cl, nn_add1, lx0, lx1, lx2, lx3, lx4, lx5, lx6, lx7, lx8, lx9, lx10, bi_e0, bi_e1]
      rw [r_manyRoads (h := qw_J H 149 4 v) (show WF (sg (qw_J H 149 4 v)) by rw [sg_J, hs]; exact w) hq, qbn_s, sg_J, hs]
      obtain ⟨G, hG⟩ : ∃ G, G = qw_J (qw_J H 149 4 v) 149 5 (nn (cnt (fun r => onR (sg h) r q) (gO (sg h)))).toInt64 := ⟨_, rfl⟩
      rw [← hG]
      have fin2 : ∀ m : Nat, m = fct (sg h) q 6 → qW (f_X12_asks_b166 6 (nn m).toInt64 G) (fun g => ∀ j, j < 7 → g.2.1 149 j = (nn (fct (sg h) q j)).toInt64) := by
        intro m hm
        unfold f_X12_asks_b166
        simp (disch := first | omega | decide) only [qbn_x, qbv_x, qup_x, qbd_x, qck_nn, qck_ok, nn_cl, nn_add1, lx0, lx1, lx2, lx3, lx4, lx5, lx6, lx7, lx8, lx9, lx10, bi_e0, bi_e1]
        rw [qW_some]
        intro j hj
        have : j = 0 ∨ j = 1 ∨ j = 2 ∨ j = 3 ∨ j = 4 ∨ j = 5 ∨ j = 6 := by omega
        rcases this with rfl | rfl | rfl | rfl | rfl | rfl | rfl
        · rw [wJ_ne (by decide), hG, wJ_ne (by decide), wJ_ne (by decide), v0]; rfl
        · rw [wJ_ne (by decide), hG, wJ_ne (by decide), wJ_ne (by decide), v1]; rfl
        · rw [wJ_ne (by decide), hG, wJ_ne (by decide), wJ_ne (by decide), v2]
        · rw [wJ_ne (by decide), hG, wJ_ne (by decide), wJ_ne (by decide), v3]
        · rw [wJ_ne (by decide), hG, wJ_ne (by decide), wJ_at, hv]
        · rw [wJ_ne (by decide), hG, wJ_at]; rfl
        · rw [wJ_at, hm]
      have hm : fct (sg h) q 6 = min (min (q % 6) (gC (sg h) - 1 - q % 6)) (min (q / 6) (gR (sg h) - 1 - q / 6)) := rfl
      by_cases c1 : gC (sg h) - 1 - q % 6 ≤ a
      · rw [if_pos ((nn_le (by omega) (by omega)).mpr c1)]
        by_cases c2 : gR (sg h) - 1 - q / 6 ≤ gC (sg h) - 1 - q % 6
        · rw [if_pos ((nn_le (by omega) (by omega)).mpr c2)]
          exact fin2 _ (by rw [hm]; omega)
        · rw [if_neg (fun q => c2 ((nn_le (by omega) (by omega)).mp q))]
          exact fin2 _ (by rw [hm]; omega)
      · rw [if_neg (fun q => c1 ((nn_le (by omega) (by omega)).mp q))]
        by_cases c2 : gR (sg h) - 1 - q / 6 ≤ a
        · rw [if_pos ((nn_le (by omega) (by omega)).mpr c2)]
          exact fin2 _ (by rw [hm]; omega)
        · rw [if_neg (fun q => c2 ((nn_le (by omega) (by omega)).mp q))]
          exact fin2 _ (by rw [hm]; omega)
    refine qW_ite.mpr ⟨fun c => fin 0 ?_, fun c => fin 1 ?_⟩
    · simp only [fct, if_pos c]
      rfl
    · simp only [fct, if_neg c]
      rfl
  unfold m_X12_asks
  rw [nn_r6 (by omega), nn_d6 (by omega)]
  simp only [qbd_e]
  by_cases c : q / 6 ≤ q % 6
  · rw [if_pos ((nn_le (by omega) (by omega)).mpr c)]
    exact key _ (by omega)
  · rw [if_neg (fun q => c ((nn_le (by omega) (by omega)).mp q))]
    exact key _ (by omega)
theorem nn_qmin {a b : Nat} (ha : a < 2147483648) (hb : b < 2147483648) : q_min (nn a) (nn b) = nn (min a b) := by
  unfold q_min
  by_cases c : b < a
  · rw [if_pos ((nn_lt hb ha).mpr c), Nat.min_eq_right (by omega)]
  · rw [if_neg (fun q => c ((nn_lt hb ha).mp q)), Nat.min_eq_left (by omega)]
theorem nn_qmax {a b : Nat} (ha : a < 2147483648) (hb : b < 2147483648) : q_max (nn a) (nn b) = nn (max a b) := by
  unfold q_max
  by_cases c : a < b
  · rw [if_pos ((nn_lt ha hb).mpr c), Nat.max_eq_right (by omega)]
  · rw [if_neg (fun q => c ((nn_lt ha hb).mp q)), Nat.max_eq_left (by omega)]
/-- a land's cells as they were -/
theorem RelL_fr {a : Nat} {s : Sg} {h g : qa_M} (r : RelL a s h) (e1 : ∀ b j, a ≤ b → b ≤ a + 5 → g.1 b j = h.1 b j) (e2 : ∀ b j, a ≤ b → b ≤ a + 5 → g.2.1 b j = h.2.1 b j) : RelL a s g := by
  obtain ⟨⟨a0, a1, a2, a3, a4, a5⟩, ⟨b1, b2⟩, c, d, f⟩ := r
  refine ⟨⟨?_, ?_, ?_, ?_, ?_, ?_⟩, ⟨?_, ?_⟩, ?_, ?_, ?_⟩
  · rw [e1 _ _ (by omega) (by omega)]; exact a0
  · rw [e1 _ _ (by omega) (by omega)]; exact a1
  · rw [e1 _ _ (by omega) (by omega)]; exact a2
  · rw [e1 _ _ (by omega) (by omega)]; exact a3
  · rw [e1 _ _ (by omega) (by omega)]; exact a4
  · rw [e1 _ _ (by omega) (by omega)]; exact a5
  · rw [e2 _ _ (by omega) (by omega)]; exact b1
  · rw [e2 _ _ (by omega) (by omega)]; exact b2
  · intro i hi
    rw [e1 _ _ (by omega) (by omega), e1 _ _ (by omega) (by omega), e2 _ _ (by omega) (by omega)]
    exact c i hi
  · intro i hi
    rw [e2 _ _ (by omega) (by omega)]
    exact d i hi
  · intro i hi
    rw [e1 _ _ (by omega) (by omega)]
    exact f i hi
theorem RelL_wI {a : Nat} {s : Sg} {h : qa_M} (r : RelL a s h) {b k : Nat} {v : Int32} (hb : b < a ∨ a + 5 < b) : RelL a s (qw_I h b k v) := RelL_fr r (fun c j h1 h2 => wI_ne (by omega)) (fun _ _ _ _ => rfl)
theorem RelL_wJ {a : Nat} {s : Sg} {h : qa_M} (r : RelL a s h) {b k : Nat} {v : Int64} (hb : b < a ∨ a + 5 < b) : RelL a s (qw_J h b k v) := RelL_fr r (fun _ _ _ _ => rfl) (fun c j h1 h2 => wJ_ne (by omega))
theorem qal_s {α : Type} {tc a n : Nat} {h : qa_M} {K : Nat → Option α} (e : (qO h)[a]? = some (.inr (tc, n))) : qal tc a h K = K n := by
  unfold qal
  rw [e]
  exact if_pos rfl
theorem k_toEdge {h : qa_M} {s : Sg} (w : WF s) (r : RelL 4 s h) {q : Nat} (hq : q < 36) (ht : thr s q = true) : m_X3_toEdge (nn q) h = some (nn (fct s q 6), h) := by
  have e0 : h.1 4 0 = nn (gC s) := r.1.1.trans w.c.1
  have e1 : h.1 4 1 = nn (gR s) := r.1.2.1.trans w.r.1
  have l0 := w.c.2
  have l1 := w.r.2
  unfold thr at ht
  rw [Bool.and_eq_true, decide_eq_true_eq, decide_eq_true_eq] at ht
  unfold m_X3_toEdge
  rw [nn_r6 (by omega), nn_d6 (by omega)]
  simp only [qbd_e]
  rw [e0, e1, show (1 : Int32) = nn 1 from rfl, nn_sub (by omega), nn_sub (by omega), nn_sub (by omega), nn_sub (by omega), nn_qmin (by omega) (by omega), nn_qmin (by omega) (by omega), nn_qmin (by omega) (by omega)]
  rfl
/-- the class's row of facts -/
theorem k_learn {h : qa_M} {s : Sg} {a : Nat} (w : WF s) (r : RelL 4 s h) (ha : qLaw a) {q : Nat} (hq : q < 36) (ht : thr s q = true) : qW (m_X5_learn a (nn q) h) (fun g => ∀ j, j < 7 → g.1 (a + 8) j = nn (fct s q j)) := by
  have ha9 : 9 < a + 8 := by
    unfold qLaw at ha
    omega
  unfold m_X5_learn
  rw [nn_r6 (by omega), nn_d6 (by omega)]
  simp (disch := first | omega | decide) only [qbn_x, qbv_x, qup_x, qbd_x, qck_nn, qck_ok, nn_cl, nn_add1, lx0, lx1, lx2, lx3, lx4, lx5, lx6, lx7, lx8, lx9, lx10, bi_e0, bi_e1]
  have r2 := RelL_wI (RelL_wI r (b := a + 8) (k := 0) (v := nn (q % 6)) (.inr ha9)) (b := a + 8) (k := 1) (v := nn (q / 6)) (.inr ha9)
  rw [k_woodsBeside w r2 hq, qbn_s]
  have r3 := RelL_wI r2 (b := a + 8) (k := 2) (v := nn (fct s q 2)) (.inr ha9)
  rw [show cnt (fun o => thr s o && (decide (ds o q = 1) && isW s o)) 36 = fct s q 2 from rfl, k_hillsThatSee w r3 hq ht, qbn_s]
  have r4 := RelL_wI r3 (b := a + 8) (k := 3) (v := nn (fct s q 3)) (.inr ha9)
  rw [show cnt (fun i => seen s (hAt s i) q (hFar s i)) (gH s) = fct s q 3 from rfl, k_hillOn4 w r4, qbn_s]
  obtain ⟨H, hH⟩ : ∃ H, H = qw_I (qw_I (qw_I (qw_I h (a + 8) 0 (nn (q % 6))) (a + 8) 1 (nn (q / 6))) (a + 8) 2 (nn (fct s q 2))) (a + 8) 3 (nn (fct s q 3)) := ⟨_, rfl⟩
  rw [← hH] at r4 ⊢
  have fin : ∀ v : Int32, v = nn (fct s q 4) → qW (f_X5_learn_b61 a (nn q) (a + 8) 4 v H) (fun g => ∀ j, j < 7 → g.1 (a + 8) j = nn (fct s q j)) := by
    intro v hv
    unfold f_X5_learn_b61
    rw [qal_s (wl_Law_8 ha H)]
    simp (disch := first | omega | decide) only [qbn_x, qbv_x, qup_x, qbd_x, qck_nn, qck_ok, nn_cl, nn_add1, lx0, lx1, lx2, lx3, lx4, lx5, lx6, lx7, lx8, lx9, lx10, bi_e0, bi_e1]
    have r5 := RelL_wI r4 (b := a + 8) (k := 4) (v := v) (.inr ha9)
    rw [k_roadsOf w r5 hq, qbn_s]
    have r6 := RelL_wI r5 (b := a + 8) (k := 5) (v := nn (fct s q 5)) (.inr ha9)
    rw [show cnt (fun i => onR s i q) (gO s) = fct s q 5 from rfl, k_toEdge w r6 hq ht, qbn_s, qW_some]
    intro j hj
    have : j = 0 ∨ j = 1 ∨ j = 2 ∨ j = 3 ∨ j = 4 ∨ j = 5 ∨ j = 6 := by omega
    rcases this with rfl | rfl | rfl | rfl | rfl | rfl | rfl
    · rw [wI_ne (by omega), wI_ne (by omega), wI_ne (by omega), hH, wI_ne (by omega), wI_ne (by omega), wI_ne (by omega), wI_at]; rfl
    · rw [wI_ne (by omega), wI_ne (by omega), wI_ne (by omega), hH, wI_ne (by omega), wI_ne (by omega), wI_at]; rfl
    · rw [wI_ne (by omega), wI_ne (by omega), wI_ne (by omega), hH, wI_ne (by omega), wI_at]
    · rw [wI_ne (by omega), wI_ne (by omega), wI_ne (by omega), hH, wI_at]
    · rw [wI_ne (by omega), wI_ne (by omega), wI_at, hv]
    · rw [wI_ne (by omega), wI_at]
    · rw [wI_at]
  by_cases c : hon s q = -1
  · rw [if_pos c]
    refine fin 0 ?_
    simp only [fct, if_pos c]
    rfl
  · rw [if_neg c]
    refine fin 1 ?_
    simp only [fct, if_neg c]
    rfl
