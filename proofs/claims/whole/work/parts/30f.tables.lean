/-! WALKS: FROM HILL TO HILL -/
theorem k_hills {s : Sg} {h : qa_M} {x2 x4 : Int32} (w : WF s) (r : RelL 4 s h) {P : (Int32 × qa_M) → Prop} (hP : ∀ g, qfr [(49, 0)] h g → (∀ i j, i < gH s → j < gH s → g.1 49 (i * 8 + j) = oN 1000000 (hw s (hAt s i) j 36)) → qW (f_X10_fewestSteps_b32 x2 x4 g) P) : qW (f_X10_fewestSteps_b10_loop x2 x4 (nn 0) h) P := by
  have l8 := w.h.2
  have e2 : h.1 4 2 = nn (gH s) := r.1.2.2.1.trans w.h.1
  unfold f_X10_fewestSteps_b10_loop
  refine qW_for (gH s) (fun k t => ∃ g, t = (x2, x4, nn k, g) ∧ qfr [(49, 0)] h g ∧ ∀ i j, i < k → j < gH s → g.1 49 (i * 8 + j) = oN 1000000 (hw s (hAt s i) j 36)) ?_ ?_ (Nat.zero_le _) ⟨h, rfl, qfr_rf, fun i j hi => by omega⟩
  · rintro k t hk ⟨g, rfl, f, z⟩
    have rg : RelL 4 s g := RelL_fr r (fun c j h1 h2 => (f.1 c j (by unfold inW; simp; omega)).1) (fun c j h1 h2 => (f.1 c j (by unfold inW; simp; omega)).2.1)
    show qW (f_X10_fewestSteps_b10 x2 x4 (nn k) g) _
    unfold f_X10_fewestSteps_b10
    rw [(f.1 4 2 rfl).1, e2, if_neg (fun q => by rw [nn_le (by omega) (by omega)] at q; omega), qW_bv]
    refine qW_fr (k_spread w rg hk) (fun z e => fr_X10_spread _ _ e) ?_
    rintro g2 ⟨a1, a2⟩ f2
    have f2 : qfr [(49, 0)] g g2 := f2
    rw [qbd_e, nn_add1, qW_some]
    refine ⟨g2, rfl, qfr_tr f f2, fun i j hi hj => ?_⟩
    by_cases c : i = k
    · subst c
      exact a1 j hj
    · rw [a2 _ (by omega)]
      exact z i j (by omega) hj
  · rintro t ⟨g, rfl, f, z⟩
    show qW (f_X10_fewestSteps_b10 x2 x4 (nn (gH s)) g) _
    unfold f_X10_fewestSteps_b10
    rw [(f.1 4 2 rfl).1, e2, if_pos ((nn_le (by omega) (by omega)).mpr (by omega)), qW_up]
    exact hP g f z
theorem r_hills {s : Sg} {h : qa_M} {x1 x2 : Int32} (w : WF s) (hs : sg h = s) {P : (Int32 × qa_M) → Prop} (hP : ∀ g, qfr [(161, 0), (162, 0), (163, 0)] h g → (∀ i j, i < gH s → j < gH s → g.1 163 (8 * i + j) = oN 99999 (hw s (hAt s i) j 36)) → qW (f_X12_walk_b102 x1 x2 g) P) : qW (f_X12_walk_b32_loop x1 x2 (nn 0) h) P := by
  have l8 := w.h.2
  have e2 : ∀ g, sg g = s → g.1 120 2 = nn (gH s) := fun g q => by
    have := w.h.1
    rw [← q] at this ⊢
    exact this
  have e22 : ∀ g i, sg g = s → i < gH s → g.1 122 i = nn (hAt s i) ∧ hAt s i ≤ 35 := fun g i q hi => by
    have := w.hA hi
    refine ⟨?_, this.2⟩
    rw [← this.1, ← q]
    rfl
  unfold f_X12_walk_b32_loop
  refine qW_for (gH s) (fun k t => ∃ g, t = (x1, x2, nn k, g) ∧ qfr [(161, 0), (162, 0), (163, 0)] h g ∧ ∀ i j, i < k → j < gH s → g.1 163 (8 * i + j) = oN 99999 (hw s (hAt s i) j 36)) ?_ ?_ (Nat.zero_le _) ⟨h, rfl, qfr_rf, fun i j hi => by omega⟩
  · rintro k t hk ⟨g, rfl, f, z⟩
    have sG : sg g = s := by rw [sg_fr f (fun b j h1 h2 => by unfold inW; simp; omega), hs]
    have ak := e22 g k sG hk
    show qW (f_X12_walk_b32 x1 x2 (nn k) g) _
    unfold f_X12_walk_b32
    rw [qck_ok (i := 2) (by decide), show (2 : Int32).toNatClampNeg = 2 from rfl, e2 g sG, if_neg (fun q => by rw [nn_le (by omega) (by omega)] at q; omega), qck_nn (by omega) (by omega), nn_cl (by omega), ak.1, qW_bv]
    refine qW_fr (r_spreads w sG (a := hAt s k) (by omega)) (fun z e => fr_X12_spreads _ _ e) ?_
    intro g2 h2 f2
    have f2 : qfr [(161, 0), (162, 0)] g g2 := f2
    rw [qbd_e]
    unfold f_X12_walk_b55_loop
    refine qW_for (gH s) (fun n t => ∃ G, t = (x1, x2, nn k, nn n, G) ∧ qfr [(163, 0)] g2 G ∧ (∀ i j, i < k → j < gH s → G.1 163 (8 * i + j) = oN 99999 (hw s (hAt s i) j 36)) ∧ ∀ j, j < n → G.1 163 (8 * k + j) = oN 99999 (hw s (hAt s k) j 36)) ?_ ?_ (Nat.zero_le _) ⟨g2, rfl, qfr_rf, fun i j hi hj => by rw [(f2.1 163 _ rfl).1]; exact z i j hi hj, fun j hj => by omega⟩
    · rintro n t hn ⟨G, rfl, fG, z1, z2⟩
      have sG2 : sg G = s := by rw [sg_fr fG (fun b j h1 h2 => by unfold inW; simp; omega), sg_fr f2 (fun b j h1 h2 => by unfold inW; simp; omega), sG]
      have an := e22 G n sG2 hn
      show qW (f_X12_walk_b55 x1 x2 (nn k) (nn n) G) _
      unfold f_X12_walk_b55
      rw [qck_ok (i := 2) (by decide), show (2 : Int32).toNatClampNeg = 2 from rfl, e2 G sG2, if_neg (fun q => by rw [nn_le (by omega) (by omega)] at q; omega), qck_nn (by omega) (by omega), nn_cl (by omega), an.1, qck_nn (by omega) (by omega), nn_cl (by omega), show (8 : Int32) = nn 8 from rfl, nn_mul, nn_add, qck_nn (by omega) (by omega), nn_cl (by omega), (fG.1 161 _ rfl).1, h2 (hAt s n) (by omega), qbd_e, qbd_e, nn_add1, qW_some]
      refine ⟨_, rfl, qfr_tr fG (qfr_I0 rfl (by simp) qfr_rf), fun i j hi hj => ?_, fun j hj => ?_⟩
      · rw [wI_ne (by omega)]
        exact z1 i j hi hj
      · by_cases c : j = n
        · subst c
          rw [wI_at]
          rfl
        · rw [wI_ne (by omega)]
          exact z2 j (by omega)
    · rintro t ⟨G, rfl, fG, z1, z2⟩
      have sG2 : sg G = s := by rw [sg_fr fG (fun b j h1 h2 => by unfold inW; simp; omega), sg_fr f2 (fun b j h1 h2 => by unfold inW; simp; omega), sG]
      show qW (f_X12_walk_b55 x1 x2 (nn k) (nn (gH s)) G) _
      unfold f_X12_walk_b55 f_X12_walk_b96
      rw [qck_ok (i := 2) (by decide), show (2 : Int32).toNatClampNeg = 2 from rfl, e2 G sG2, if_pos ((nn_le (by omega) (by omega)).mpr (by omega)), qbd_e, nn_add1, qup_s, qW_some]
      refine ⟨G, rfl, qfr_tr f (qfr_tr (qfr_sub (qsub_c (by simp) (qsub_c (by simp) qsub_nil)) f2) (qfr_sub (qsub_c (by simp) qsub_nil) fG)), fun i j hi hj => ?_⟩
      by_cases c : i = k
      · subst c
        exact z2 j hj
      · exact z1 i j (by omega) hj
  · rintro t ⟨g, rfl, f, z⟩
    have sG : sg g = s := by rw [sg_fr f (fun b j h1 h2 => by unfold inW; simp; omega), hs]
    show qW (f_X12_walk_b32 x1 x2 (nn (gH s)) g) _
    unfold f_X12_walk_b32
    rw [qck_ok (i := 2) (by decide), show (2 : Int32).toNatClampNeg = 2 from rfl, e2 g sG, if_pos ((nn_le (by omega) (by omega)).mpr (by omega)), qW_up]
    exact hP g f z
