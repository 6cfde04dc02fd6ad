/-! THE REFERENCE'S LAYINGS MADE READY -/
theorem sg_fr {W : List (Nat × Nat)} {h g : qa_M} (f : qfr W h g) (hw : ∀ b j, 120 ≤ b → b ≤ 131 → inW W b j = false) : sg g = sg h := by
  funext i j
  unfold sg
  split <;> first | exact (f.1 _ j (hw _ j (by omega) (by omega))).1 | rfl
theorem lw_fr {W : List (Nat × Nat)} {h g : qa_M} (f : qfr W h g) (hw : ∀ b j, 140 ≤ b → b ≤ 147 → inW W b j = false) : lw g = lw h := by
  funext k i j
  unfold lw
  split <;> exact (f.1 _ _ (hw _ _ (by omega) (by omega))).1
theorem WF.nt {s : Sg} (w : WF s) {m : Nat} (h : m < gT s) : s 8 m = nn (cN (s 8 m)) ∧ cN (s 8 m) ≤ 1 ∧ s 9 m = nn (cN (s 9 m)) ∧ cN (s 9 m) ≤ 7 ∧ cN (s 9 m) < (if cN (s 8 m) = 0 then gH s else gO s) := by
  obtain ⟨a1, a2, a3, a4, a5⟩ := w.2.2.2.2.2.1 m h
  obtain ⟨b1, b2⟩ := inr_nn a2 (by omega)
  obtain ⟨c1, c2⟩ := inr_nn a3 (by omega)
  exact ⟨b1, b2, c1, c2, a4⟩
theorem r_beg217 {h : qa_M} (w : WF (sg h)) (L : Nat → Lw) (p0 : h.1 119 48 = nn (nT (sg h)) ∧ ∀ t, t < nT (sg h) → h.1 152 t = nn (srt (sg h) t)) (p1 : ∀ i, i < gS (sg h) → h.2.1 154 i = alw (sg h) L i) (p2 : ∀ a b, a < nT (sg h) → b < nT (sg h) → h.1 153 (4 * a + b) = nn (frS (sg h) L (srt (sg h) a) (srt (sg h) b))) :
    qW (f_X12_beginsLayings_b217 h) (fun g => RP (sg h) L g ∧ g.1 119 49 = 0) := by
  have l5 := w.t.2
  unfold f_X12_beginsLayings_b217
  rw [qbd_e]
  unfold f_X12_beginsLayings_b219_loop
  refine qW_for (gT (sg h)) (fun k t => ∃ g, t = (nn k, g) ∧ qfr [(155, 0)] h g ∧ ∀ m, m < k → g.2.1 155 m = reg (sg h) m) ?_ ?_ (Nat.zero_le _) ⟨h, rfl, qfr_rf, fun m hm => by omega⟩
  · rintro k t hk ⟨g, rfl, fg, hg⟩
    have hs : sg g = sg h := sg_fr fg (fun b j h1 h2 => by unfold inW; simp; omega)
    have wg : WF (sg g) := by rw [hs]; exact w
    obtain ⟨b1, b2, c1, c2, c3⟩ := w.nt hk
    have e5 : g.1 120 5 = nn (gT (sg h)) := by rw [(fg.1 120 5 rfl).1]; exact w.t.1
    have e8 : g.1 128 k = nn (cN (sg h 8 k)) := by rw [(fg.1 128 k rfl).1]; exact b1
    have e9 : g.1 129 k = nn (cN (sg h 9 k)) := by rw [(fg.1 129 k rfl).1]; exact c1
    have fin : ∀ v : Int64, v = reg (sg h) k → qW (f_X12_beginsLayings_b282 (nn k) (nn k) v g) (Sum.elim (fun t => ∃ g, t = (nn (k + 1), g) ∧ qfr [(155, 0)] h g ∧ ∀ m, m < k + 1 → g.2.1 155 m = reg (sg h) m) (fun g => RP (sg h) L g ∧ g.1 119 49 = 0)) := by
      intro v hv
      unfold f_X12_beginsLayings_b282
      rw [qck_nn (by omega) (by omega), nn_cl (by omega), qbd_e, qbd_e, nn_add1, qW_some]
      refine ⟨_, rfl, qfr_J0 rfl (by simp) fg, fun m hm => ?_⟩
      by_cases c : m = k
      · subst c; rw [wJ_at, hv]
      · rw [wJ_ne (fun q => c q.2)]; exact hg m (by omega)
    show qW (f_X12_beginsLayings_b219 (nn k) g) _
    unfold f_X12_beginsLayings_b219
    simp (disch := first | omega | decide) only [qbn_x, qbv_x, qup_x, qbd_x, qck_nn, qck_ok, nn_cl, nn_add1, lx0, lx1, lx2, lx3, lx4, lx5, lx6, lx7, lx8, lx9, lx10, bi_e0, bi_e1]
    rw [e5, if_neg (fun q => by rw [nn_le (by omega) (by omega)] at q; omega), e8, e9]
    by_cases c : cN (sg h 8 k) = 0
    · rw [if_pos c] at c3
      have l2 := w.h.2
      have eA : g.1 122 (cN (sg h 9 k)) = nn (hAt (sg h) (cN (sg h 9 k))) := by rw [(fg.1 122 _ rfl).1]; exact (w.hA c3).1
      have eF : g.1 123 (cN (sg h 9 k)) = nn (hFar (sg h) (cN (sg h 9 k))) := by rw [(fg.1 123 _ rfl).1]; exact (w.hF c3).1
      have lA := (w.hA c3).2
      have lF := (w.hF c3).2
      rw [if_pos (by rw [c]; rfl), qck_nn (by omega) (by omega), qck_nn (by omega) (by omega), nn_cl (by omega), eA, eF, r_seenFrom wg (by omega) (by omega), qbn_s, hs]
      exact fin _ (by unfold reg; rw [if_pos c])
    · rw [if_neg c] at c3
      rw [if_neg (by rw [show (0 : Int32) = nn 0 from rfl, nn_eq (by omega) (by omega)]; omega), r_roadSet wg (by rw [hs]; exact c3), qbn_s, hs]
      exact fin _ (by unfold reg; rw [if_neg c])
  · rintro t ⟨g, rfl, fg, hg⟩
    have e5 : g.1 120 5 = nn (gT (sg h)) := by rw [(fg.1 120 5 rfl).1]; exact w.t.1
    show qW (f_X12_beginsLayings_b219 (nn (gT (sg h))) g) _
    unfold f_X12_beginsLayings_b219 f_X12_beginsLayings_b289
    simp (disch := first | omega | decide) only [qbn_x, qbv_x, qup_x, qbd_x, qck_nn, qck_ok, nn_cl, nn_add1, lx0, lx1, lx2, lx3, lx4, lx5, lx6, lx7, lx8, lx9, lx10, bi_e0, bi_e1]
    rw [e5, if_pos ((nn_le (by omega) (by omega)).mpr (by omega)), qW_some]
    refine ⟨⟨?_, fun t ht => ?_, fun a b ha hb => ?_, fun i hi => ?_, hg⟩, wI_at⟩
    · rw [wI_ne (by decide), (fg.1 119 48 rfl).1]; exact p0.1
    · rw [wI_ne (by omega), (fg.1 152 t rfl).1]; exact p0.2 t ht
    · rw [wI_ne (by omega), (fg.1 153 _ rfl).1]; exact p2 a b ha hb
    · show g.2.1 154 i = _
      rw [(fg.1 154 i rfl).2.1]; exact p1 i hi
theorem r_beg159 {h : qa_M} (w : WF (sg h)) (wl : ∀ k, k + 1 = gL (sg h) → WL (lw h k)) (p0 : h.1 119 48 = nn (nT (sg h)) ∧ ∀ t, t < nT (sg h) → h.1 152 t = nn (srt (sg h) t)) (p1 : ∀ i, i < gS (sg h) → h.2.1 154 i = alw (sg h) (lw h) i) :
    qW (f_X12_beginsLayings_b159 h) (fun g => RP (sg h) (lw h) g ∧ g.1 119 49 = 0) := by
  have hn := w.n
  have l4 := w.s.2
  obtain ⟨n, hN⟩ : ∃ n, n = nT (sg h) := ⟨_, rfl⟩
  rw [← hN] at p0 hn
  unfold f_X12_beginsLayings_b159
  rw [qbd_e]
  unfold f_X12_beginsLayings_b161_loop
  have fact : ∀ {g : qa_M}, qfr [(153, 0)] h g → sg g = sg h ∧ lw g = lw h ∧ g.1 119 48 = nn n ∧ ∀ t, t < n → g.1 152 t = nn (srt (sg h) t) := by
    intro g f
    refine ⟨sg_fr f (fun b j h1 h2 => by unfold inW; simp; omega), lw_fr f (fun b j h1 h2 => by unfold inW; simp; omega), ?_, fun t ht => ?_⟩
    · rw [(f.1 119 48 rfl).1]; exact p0.1
    · rw [(f.1 152 t rfl).1]; exact p0.2 t ht
  refine qW_for n (fun a t => ∃ g, t = (nn a, g) ∧ qfr [(153, 0)] h g ∧ ∀ x y, x < a → y < n → g.1 153 (4 * x + y) = nn (frS (sg h) (lw h) (srt (sg h) x) (srt (sg h) y))) ?_ ?_ (Nat.zero_le _) ⟨h, rfl, qfr_rf, fun x y hx => by omega⟩
  · rintro a t ha ⟨g, rfl, fg, hg⟩
    obtain ⟨s1, s2, s3, s4⟩ := fact fg
    show qW (f_X12_beginsLayings_b161 (nn a) g) _
    unfold f_X12_beginsLayings_b161
    rw [s3, if_neg (fun q => by rw [nn_le (by omega) (by omega)] at q; omega), qbd_e]
    unfold f_X12_beginsLayings_b171_loop
    refine qW_for n (fun b t => ∃ g, t = (nn a, nn b, g) ∧ qfr [(153, 0)] h g ∧ ∀ x y, (x < a ∧ y < n) ∨ (x = a ∧ y < b) → g.1 153 (4 * x + y) = nn (frS (sg h) (lw h) (srt (sg h) x) (srt (sg h) y))) ?_ ?_ (Nat.zero_le _) ⟨g, rfl, fg, fun x y q => by
      rcases q with q | q
      · exact hg x y q.1 q.2
      · omega⟩
    · rintro b t hb ⟨g2, rfl, f2, hg2⟩
      obtain ⟨t1, t2, t3, t4⟩ := fact f2
      have sa : srt (sg h) a < gS (sg h) := srt_lt (by omega)
      have sb : srt (sg h) b < gS (sg h) := srt_lt (by omega)
      show qW (f_X12_beginsLayings_b171 (nn a) (nn b) g2) _
      unfold f_X12_beginsLayings_b171
      rw [t3, if_neg (fun q => by rw [nn_le (by omega) (by omega)] at q; omega)]
      simp (disch := first | omega | decide) only [qbn_x, qbv_x, qup_x, qbd_x, qck_nn, qck_ok, nn_cl, nn_add1, lx0, lx1, lx2, lx3, lx4, lx5, lx6, lx7, lx8, lx9, lx10, bi_e0, bi_e1]
      rw [t4 a ha, t4 b hb, r_farOf (by rw [t1]; exact w) (by rw [t1, t2]; exact wl) (by omega) (by omega), qbn_s, t1, t2, show (4 : Int32) = nn 4 from rfl, nn_mul, nn_add]
      simp (disch := first | omega | decide) only [qbn_x, qbv_x, qup_x, qbd_x, qck_nn, qck_ok, nn_cl, nn_add1, lx0, lx1, lx2, lx3, lx4, lx5, lx6, lx7, lx8, lx9, lx10, bi_e0, bi_e1]
      rw [qW_some]
      refine ⟨_, rfl, qfr_I0 rfl (by simp) f2, fun x y q => ?_⟩
      by_cases c : x = a ∧ y = b
      · obtain ⟨rfl, rfl⟩ := c
        exact wI_at
      · rw [wI_ne (by omega)]
        exact hg2 x y (by omega)
    · rintro t ⟨g2, rfl, f2, hg2⟩
      obtain ⟨t1, t2, t3, t4⟩ := fact f2
      show qW (f_X12_beginsLayings_b171 (nn a) (nn n) g2) _
      unfold f_X12_beginsLayings_b171 f_X12_beginsLayings_b211
      rw [t3, if_pos ((nn_le (by omega) (by omega)).mpr (by omega)), qbd_e, nn_add1, qup_s, qW_some]
      exact ⟨g2, rfl, f2, fun x y hx hy => hg2 x y (by omega)⟩
  · rintro t ⟨g, rfl, fg, hg⟩
    obtain ⟨s1, s2, s3, s4⟩ := fact fg
    show qW (f_X12_beginsLayings_b161 (nn n) g) _
    unfold f_X12_beginsLayings_b161
    rw [s3, if_pos ((nn_le (by omega) (by omega)).mpr (by omega)), qW_up]
    have := r_beg217 (h := g) (by rw [s1]; exact w) (lw h) (by rw [s1, ← hN]; exact ⟨s3, s4⟩) (by
      intro i hi
      rw [s1] at hi ⊢
      rw [(fg.1 154 i rfl).2.1]
      exact p1 i hi) (by
      intro a b ha hb
      rw [s1, ← hN] at ha hb
      rw [s1]
      exact hg a b ha hb)
    rw [s1] at this
    exact this
theorem r_beg68 {h : qa_M} (w : WF (sg h)) (wl : ∀ k, k + 1 = gL (sg h) → WL (lw h k)) (p0 : h.1 119 48 = nn (nT (sg h)) ∧ ∀ t, t < nT (sg h) → h.1 152 t = nn (srt (sg h) t)) (p1 : ∀ i, i < gS (sg h) → h.2.1 154 i = 0) :
    qW (f_X12_beginsLayings_b68 h) (fun g => RP (sg h) (lw h) g ∧ g.1 119 49 = 0) := by
  have l4 := w.s.2
  unfold f_X12_beginsLayings_b68
  rw [qbd_e]
  unfold f_X12_beginsLayings_b70_loop
  obtain ⟨s, hS⟩ : ∃ s, s = sg h := ⟨_, rfl⟩
  obtain ⟨L, hL⟩ : ∃ L, L = lw h := ⟨_, rfl⟩
  rw [← hS] at w wl p0 p1 l4 ⊢
  rw [← hL] at wl ⊢
  have fact : ∀ {g : qa_M}, qfr [(149, 0), (150, 0), (154, 0)] h g → sg g = s ∧ lw g = L ∧ g.1 119 48 = nn (nT s) ∧ ∀ t, t < nT s → g.1 152 t = nn (srt s t) := by
    intro g f
    refine ⟨by rw [hS]; exact sg_fr f (fun b j h1 h2 => by unfold inW; simp; omega), by rw [hL]; exact lw_fr f (fun b j h1 h2 => by unfold inW; simp; omega), ?_, fun t ht => ?_⟩
    · rw [(f.1 119 48 rfl).1]; exact p0.1
    · rw [(f.1 152 t rfl).1]; exact p0.2 t ht
  refine qW_for 36 (fun k t => ∃ g, t = (nn k, g) ∧ qfr [(149, 0), (150, 0), (154, 0)] h g ∧ ∀ i, i < gS s → g.2.1 154 i = mkm (fun q => thr s q && (!isW s q && !brS s L q i)) k) ?_ ?_ (by omega : 0 ≤ 36) ⟨h, rfl, qfr_rf, p1⟩
  · rintro k t hk ⟨g, rfl, fg, hg⟩
    obtain ⟨s1, s2, -, -⟩ := fact fg
    have inner : ∀ (v : Nat) (g0 : qa_M), qfr [(149, 0), (150, 0), (154, 0)] h g0 → (∀ i, i < gS s → g0.2.1 154 i = mkm (fun q => thr s q && (!isW s q && !brS s L q i)) k) → v < 2147483648 → (thr s k = true → ∀ i, i < gS s → v.testBit i = brS s L k i) →
        qW (f_X12_beginsLayings_b93 (nn k) (nn v) g0) (Sum.elim (fun t => ∃ g, t = (nn (k + 1), g) ∧ qfr [(149, 0), (150, 0), (154, 0)] h g ∧ ∀ i, i < gS s → g.2.1 154 i = mkm (fun q => thr s q && (!isW s q && !brS s L q i)) (k + 1)) (fun g => RP s L g ∧ g.1 119 49 = 0)) := by
      intro v g0 f0 h0 hv hb
      unfold f_X12_beginsLayings_b93
      rw [qbd_e, qbd_e]
      unfold f_X12_beginsLayings_b96_loop
      refine qW_for (gS s) (fun i t => ∃ g, t = (nn k, nn v, nn i, g) ∧ qfr [(149, 0), (150, 0), (154, 0)] h g ∧ ∀ j, j < gS s → g.2.1 154 j = mkm (fun q => thr s q && (!isW s q && !brS s L q j)) (if j < i then k + 1 else k)) ?_ ?_ (Nat.zero_le _) ⟨g0, rfl, f0, fun j hj => by rw [if_neg (by omega)]; exact h0 j hj⟩
      · rintro i t hi ⟨g1, rfl, f1, h1⟩
        obtain ⟨t1, t2, -, -⟩ := fact f1
        have wg : WF (sg g1) := by rw [t1]; exact w
        have e4 : g1.1 120 4 = nn (gS s) := by
          have := wg.s.1
          rw [t1] at this
          rw [← this, ← t1]
          rfl
        have fin : ∀ x : Int64, g1.2.1 154 i ||| x = mkm (fun q => thr s q && (!isW s q && !brS s L q i)) (k + 1) → qW (f_X12_beginsLayings_b145 (nn k) (nn v) (nn i) (nn i) (g1.2.1 154 i) x g1) (Sum.elim (fun t => ∃ g, t = (nn k, nn v, nn (i + 1), g) ∧ qfr [(149, 0), (150, 0), (154, 0)] h g ∧ ∀ j, j < gS s → g.2.1 154 j = mkm (fun q => thr s q && (!isW s q && !brS s L q j)) (if j < i + 1 then k + 1 else k)) (Sum.elim (fun t => ∃ g, t = (nn (k + 1), g) ∧ qfr [(149, 0), (150, 0), (154, 0)] h g ∧ ∀ i, i < gS s → g.2.1 154 i = mkm (fun q => thr s q && (!isW s q && !brS s L q i)) (k + 1)) (fun g => RP s L g ∧ g.1 119 49 = 0))) := by
          intro x hx
          unfold f_X12_beginsLayings_b145
          rw [qck_nn (by omega) (by omega), nn_cl (by omega), qbd_e, qbd_e, nn_add1, qW_some, hx]
          refine ⟨_, rfl, qfr_J0 rfl (by simp) f1, fun j hj => ?_⟩
          by_cases c : j = i
          · subst c
            rw [wJ_at, if_pos (by omega)]
          · rw [wJ_ne (fun q => c q.2), h1 j hj]
            by_cases c2 : j < i
            · rw [if_pos c2, if_pos (by omega)]
            · rw [if_neg c2, if_neg (by omega)]
        have g1i := h1 i hi
        rw [if_neg (by omega)] at g1i
        have no : (thr s k && (!isW s k && !brS s L k i)) = false → g1.2.1 154 i ||| 0 = mkm (fun q => thr s q && (!isW s q && !brS s L q i)) (k + 1) := by
          intro q
          rw [or0, mkm_f (p := fun q => thr s q && (!isW s q && !brS s L q i)) q, g1i]
        show qW (f_X12_beginsLayings_b96 (nn k) (nn v) (nn i) g1) _
        unfold f_X12_beginsLayings_b96
        simp (disch := first | omega | decide) only [qbn_x, qbv_x, qup_x, qbd_x, qck_nn, qck_ok, nn_cl, nn_add1, lx0, lx1, lx2, lx3, lx4, lx5, lx6, lx7, lx8, lx9, lx10, bi_e0, bi_e1]
        rw [e4, if_neg (fun q => by rw [nn_le (by omega) (by omega)] at q; omega), r_isThere wg hk, qbn_s, r_isWood wg hk, qbn_s, r_has32 hv (by omega), qbn_s, t1]
        unfold f_X12_beginsLayings_b144
        rcases mb2 (thr s k) with q1 | q1
        · rw [q1, if_neg (by decide)]
          rcases mb2 (isW s k) with q2 | q2
          · rw [q2, if_neg (by decide)]
            exact fin 0 (no (by rw [q2]; simp))
          · rw [q2, if_pos (by decide), hb q1 i hi]
            rcases mb2 (brS s L k i) with q3 | q3
            · rw [q3, if_neg (by decide)]
              exact fin 0 (no (by rw [q3]; simp))
            · rw [q3, if_pos (by decide)]
              refine fin _ ?_
              rw [mkm_t (p := fun q => thr s q && (!isW s q && !brS s L q i)) (by rw [q1, q2, q3]; rfl), g1i]
        · rw [q1, if_pos (by decide)]
          exact fin 0 (no (by rw [q1]; rfl))
      · rintro t ⟨g1, rfl, f1, h1⟩
        obtain ⟨t1, t2, -, -⟩ := fact f1
        have wg : WF (sg g1) := by rw [t1]; exact w
        have e4 : g1.1 120 4 = nn (gS s) := by
          have := wg.s.1
          rw [t1] at this
          rw [← this, ← t1]
          rfl
        show qW (f_X12_beginsLayings_b96 (nn k) (nn v) (nn (gS s)) g1) _
        unfold f_X12_beginsLayings_b96 f_X12_beginsLayings_b153
        simp (disch := first | omega | decide) only [qbn_x, qbv_x, qup_x, qbd_x, qck_nn, qck_ok, nn_cl, nn_add1, lx0, lx1, lx2, lx3, lx4, lx5, lx6, lx7, lx8, lx9, lx10, bi_e0, bi_e1]
        rw [e4, if_pos ((nn_le (by omega) (by omega)).mpr (by omega)), qW_some]
        refine ⟨g1, rfl, f1, fun j hj => ?_⟩
        rw [h1 j hj, if_pos hj]
    show qW (f_X12_beginsLayings_b70 (nn k) g) _
    unfold f_X12_beginsLayings_b70
    rw [if_neg (fun q => by rw [show (36 : Int32) = nn 36 from rfl, nn_le (by omega) (by omega)] at q; omega), r_isThere (by rw [s1]; exact w) hk, qbn_s, s1]
    rcases mb2 (thr s k) with q1 | q1
    · rw [q1, if_neg (by decide), qW_bn]
      refine qW_fr (r_barred (h := g) (by rw [s1]; exact w) (by rw [s1, s2]; exact wl) hk (by rw [s1]; exact q1)) (fun z e => fr_X12_barred _ _ e) ?_
      rintro ⟨v, g0⟩ hv f0
      have f0 : qfr [(149, 0), (150, 0)] g g0 := f0
      rw [s1, s2] at hv
      dsimp only at hv ⊢
      rw [hv]
      refine inner _ g0 (qfr_tr fg (qfr_sub (qsub_c (by simp) (qsub_c (by simp) qsub_nil)) f0)) (fun i hi => by rw [(f0.1 154 i rfl).2.1]; exact hg i hi) ?_ (fun _ i hi => by rw [nmk_tb, decide_eq_true hi, Bool.true_and])
      have := nmk_lt (p := brS s L k) (n := gS s)
      have : 2 ^ gS s ≤ 2 ^ 4 := Nat.pow_le_pow_right (by omega) l4
      omega
    · rw [q1, if_pos (by decide)]
      exact inner 0 g fg hg (by omega) (fun q => by rw [q1] at q; cases q)
  · rintro t ⟨g, rfl, fg, hg⟩
    obtain ⟨s1, s2, s3, s4⟩ := fact fg
    show qW (f_X12_beginsLayings_b70 (nn 36) g) _
    unfold f_X12_beginsLayings_b70
    rw [if_pos (by decide), qW_up]
    have := r_beg159 (h := g) (by rw [s1]; exact w) (by rw [s1, s2]; exact wl) (by rw [s1]; exact ⟨s3, s4⟩) (by
      intro i hi
      rw [s1] at hi
      rw [s1, s2]
      exact hg i hi)
    rw [s1, s2] at this
    exact this
theorem r_begins {h : qa_M} (w : WF (sg h)) (wl : ∀ k, k + 1 = gL (sg h) → WL (lw h k)) :
    qW (m_X12_beginsLayings h) (fun g => RP (sg h) (lw h) g ∧ g.1 119 49 = 0) := by
  have hn := w.n
  have l4 := w.s.2
  unfold m_X12_beginsLayings
  rw [qbd_e, qbd_e]
  unfold f_X12_beginsLayings_b7_loop
  obtain ⟨s, hS⟩ : ∃ s, s = sg h := ⟨_, rfl⟩
  obtain ⟨L, hL⟩ : ∃ L, L = lw h := ⟨_, rfl⟩
  rw [← hS] at w wl hn l4 ⊢
  rw [← hL] at wl ⊢
  have fact : ∀ {g : qa_M}, qfr [(119, 49), (152, 0), (154, 0)] h g → sg g = s ∧ lw g = L := by
    intro g f
    exact ⟨by rw [hS]; exact sg_fr f (fun b j h1 h2 => by unfold inW; simp; omega), by rw [hL]; exact lw_fr f (fun b j h1 h2 => by unfold inW; simp; omega)⟩
  have e4 : ∀ {g : qa_M}, qfr [(119, 49), (152, 0), (154, 0)] h g → g.1 120 4 = nn (gS s) := by
    intro g f
    rw [(f.1 120 4 rfl).1, ← w.s.1, hS]
    rfl
  refine qW_for (gS s) (fun i t => ∃ g, t = (nn i, g) ∧ qfr [(119, 49), (152, 0), (154, 0)] h g ∧ g.1 119 48 = nn (sumN (mny s) i) ∧ (∀ u, u < sumN (mny s) i → g.1 152 u = nn (srt s u)) ∧ ∀ j, j < i → g.2.1 154 j = 0) ?_ ?_ (Nat.zero_le _) ⟨qw_I h 119 48 0, rfl, qfr_Ik rfl (by simp) qfr_rf, wI_at, fun u hu => by simp [sumN] at hu, fun j hj => by omega⟩
  · rintro i t hi ⟨g, rfl, fg, g4, gs, gz⟩
    obtain ⟨m1, m2⟩ := w.m hi
    have hsu : sumN (mny s) (i + 1) = sumN (mny s) i + mny s i := rfl
    have hsl : sumN (mny s) (i + 1) ≤ nT s := sumN_mono (show i + 1 ≤ gS s from hi)
    show qW (f_X12_beginsLayings_b7 (nn i) g) _
    unfold f_X12_beginsLayings_b7
    simp (disch := first | omega | decide) only [qbn_x, qbv_x, qup_x, qbd_x, qck_nn, qck_ok, nn_cl, nn_add1, lx0, lx1, lx2, lx3, lx4, lx5, lx6, lx7, lx8, lx9, lx10, bi_e0, bi_e1]
    rw [e4 fg, if_neg (fun q => by rw [nn_le (by omega) (by omega)] at q; omega)]
    unfold f_X12_beginsLayings_b26_loop
    refine qW_for (mny s i) (fun j t => ∃ g2, t = (nn i, nn j, g2) ∧ qfr [(119, 49), (152, 0), (154, 0)] h g2 ∧ g2.1 119 48 = nn (sumN (mny s) i + j) ∧ (∀ u, u < sumN (mny s) i + j → g2.1 152 u = nn (srt s u)) ∧ ∀ j, j < i + 1 → g2.2.1 154 j = 0) ?_ ?_ (Nat.zero_le _) ⟨_, rfl, qfr_J0 rfl (by simp) fg, g4, gs, fun j hj => by
      by_cases c : j = i
      · subst c; exact wJ_at
      · rw [wJ_ne (fun q => c q.2)]; exact gz j (by omega)⟩
    · rintro j t hj ⟨g2, rfl, f2, g24, gs2, gz2⟩
      have e9 : g2.1 126 i = nn (mny s i) := by rw [(f2.1 126 i rfl).1, ← m1, hS]; rfl
      show qW (f_X12_beginsLayings_b26 (nn i) (nn j) g2) _
      unfold f_X12_beginsLayings_b26
      rw [qck_nn (by omega) (by omega), nn_cl (by omega), e9, if_neg (fun q => by rw [nn_le (by omega) (by omega)] at q; omega), g24, qck_nn (by omega) (by omega), nn_cl (by omega)]
      simp only [qbd_x]
      rw [wI_ne (by omega), g24, nn_add1, nn_add1, qW_some]
      refine ⟨_, rfl, qfr_Ik rfl (by simp) (qfr_I0 (a := 152) rfl (by simp) f2), wI_at, fun u hu => ?_, gz2⟩
      rw [wI_ne (by omega)]
      by_cases c : u = sumN (mny s) i + j
      · subst c
        rw [wI_at, srt_of hi (by omega) (by omega)]
      · rw [wI_ne (fun q => c q.2)]
        exact gs2 u (by omega)
    · rintro t ⟨g2, rfl, f2, g24, gs2, gz2⟩
      have e9 : g2.1 126 i = nn (mny s i) := by rw [(f2.1 126 i rfl).1, ← m1, hS]; rfl
      show qW (f_X12_beginsLayings_b26 (nn i) (nn (mny s i)) g2) _
      unfold f_X12_beginsLayings_b26 f_X12_beginsLayings_b62
      rw [qck_nn (by omega) (by omega), nn_cl (by omega), e9, if_pos ((nn_le (by omega) (by omega)).mpr (by omega)), qbd_e, nn_add1, qup_s, qW_some]
      exact ⟨g2, rfl, f2, g24, gs2, gz2⟩
  · rintro t ⟨g, rfl, fg, g4, gs, gz⟩
    obtain ⟨s1, s2⟩ := fact fg
    show qW (f_X12_beginsLayings_b7 (nn (gS s)) g) _
    unfold f_X12_beginsLayings_b7
    simp (disch := first | omega | decide) only [qbn_x, qbv_x, qup_x, qbd_x, qck_nn, qck_ok, nn_cl, nn_add1, lx0, lx1, lx2, lx3, lx4, lx5, lx6, lx7, lx8, lx9, lx10, bi_e0, bi_e1]
    rw [e4 fg, if_pos ((nn_le (by omega) (by omega)).mpr (by omega)), qW_up]
    have := r_beg68 (h := g) (by rw [s1]; exact w) (by rw [s1, s2]; exact wl) (by rw [s1]; exact ⟨g4, gs⟩) (by rw [s1]; exact gz)
    rw [s1, s2] at this
    exact this
