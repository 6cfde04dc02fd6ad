/-! THE CLASS'S SEARCH MADE READY -/
theorem CL_keep {a : Nat} {L : Lw} {h g : qa_M} (cl : CL a L h) (e : ∀ b j, a ≤ b → b ≤ a + 6 → b ≠ a + 5 → g.1 b j = h.1 b j) (e5 : ∀ j, j < cnt (isB L) (lC L) → g.1 (a + 5) j = h.1 (a + 5) j) : CL a L g := by
  obtain ⟨c0, c4, ca, cb⟩ := cl
  refine ⟨?_, ?_, ?_, ?_⟩
  · rw [e _ _ (by omega) (by omega) (by omega)]; exact c0
  · rw [e _ _ (by omega) (by omega) (by omega)]; exact c4
  · intro c hc hB
    rw [e _ _ (by omega) (by omega) (by omega), e _ _ (by omega) (by omega) (by omega), e _ _ (by omega) (by omega) (by omega)]
    exact ca c hc hB
  · intro c hc hB
    obtain ⟨m1, m2, m3, m4⟩ := cb c hc hB
    have hlt : cnt (isB L) c < cnt (isB L) (lC L) := by
      have := cnt_mono (p := isB L) (show c + 1 ≤ lC L from hc)
      rw [cnt_t hB] at this
      omega
    refine ⟨?_, ?_, ?_, ?_⟩
    · rw [e _ _ (by omega) (by omega) (by omega)]; exact m1
    · rw [e5 _ hlt]; exact m2
    · rw [← m3]
      by_cases q : cnt (isB L) c + 1 < cnt (isB L) (lC L)
      · rw [if_pos q, if_pos q, e5 _ q]
      · rw [if_neg q, if_neg q, e _ _ (by omega) (by omega) (by omega)]
    · intro x h1 h2
      rw [e _ _ (by omega) (by omega) (by omega)]
      exact m4 x h1 h2
theorem qnul_0 {α : Type} {A : Option α} {B : Nat → Option α} : qnul 0 A B = A := rfl
theorem qnul_s {α : Type} {n : Nat} {A : Option α} {B : Nat → Option α} : qnul (n + 1) A B = B n := rfl
def lA (k : Nat) : Nat := 83 + 9 * k
theorem lA_q {k : Nat} (h : k < 4) : qLaw (lA k) := by
  unfold qLaw lA
  omega
/-- all laws' cells that matter stay -/
def LKeep (n : Nat) (h g : qa_M) : Prop := ∀ k L, k < n → WL L → CL (lA k) L h → CL (lA k) L g
theorem LKeep.tr {n : Nat} {h g f : qa_M} (a : LKeep n h g) (b : LKeep n g f) : LKeep n h f := fun k L hk w c => b k L hk w (a k L hk w c)
theorem LKeep_fr {n : Nat} {W : List (Nat × Nat)} {h g : qa_M} (f : qfr W h g) (hw : ∀ b j, 83 ≤ b → b ≤ 118 → inW W b j = false) (hn : n ≤ 4) : LKeep n h g := by
  intro k L hk w c
  unfold lA at *
  exact CL_keep c (fun b j h1 h2 _ => (f.1 b j (hw b j (by omega) (by omega))).1) (fun j _ => (f.1 _ j (hw _ j (by omega) (by omega))).1)
theorem k_prepB77 {h : qa_M} {s : Sg} {L : Nat → Lw} {x : Nat} (w : WF s) (r : RelL 4 s h) (hL4 : gL s ≤ 4) (wl : ∀ k, k < gL s → WL (L k)) (cl : ∀ k, k < gL s → CL (lA k) (L k) h) (hx : x = if gL s = 0 then 0 else lA (gL s - 1) + 1) :
    qW (f_X7_prepare_b77 x h) (fun g => (∀ i, i < 4 → g.2.1 24 i = mkm (fun q => thr s q && brS s L q i) 36) ∧ (∀ a b, a < 4 → b < 4 → g.1 25 (4 * a + b) = nn (frS s L a b)) ∧ LKeep 4 h g) := by
  unfold f_X7_prepare_b77
  rw [qW_bv]
  refine qW_fr (k_fillJ (h := h) (v := 0)) (fun g e => fr_J7_fill_d0a16 _ _ e) ?_
  intro g1 j1 f1
  have f1 : qfr [(24, 0)] h g1 := f1
  rw [qW_bv]
  refine qW_fr (k_fill (h := g1) (a := 25) (n := 16) (v := 1) (fun g => wl_25 g) (by omega)) (fun g e => fr_J7_fill_53178 _ _ _ e) ?_
  intro g2 j2 f2
  have f2 : qfr [(25, 0)] g1 g2 := f2
  have f12 : qfr [(24, 0), (25, 0)] h g2 := qfr_tr (qfr_sub (qsub_c (by simp) qsub_nil) f1) (qfr_sub (qsub_c (by simp) qsub_nil) f2)
  have k12 : LKeep 4 h g2 := LKeep_fr f12 (fun b j h1 h2 => by unfold inW; simp; omega) (by omega)
  have z24 : ∀ i, i < 4 → g2.2.1 24 i = 0 := fun i hi => by rw [(f2.1 24 i rfl).2.1]; exact j1 i hi
  have o25 : ∀ x y, x < 4 → y < 4 → g2.1 25 (4 * x + y) = nn 1 := fun x y hx hy => j2 _ (by omega)
  rcases Nat.eq_zero_or_pos (gL s) with z | z
  · rw [hx, if_pos z, qnul_0, qW_some]
    refine ⟨fun i hi => ?_, fun a b ha hb => ?_, k12⟩
    · rw [z24 i hi, mkm_congr (q := fun _ => false) (fun q _ => by unfold brS; rw [if_pos z, Bool.and_false])]
      rfl
    · rw [o25 a b ha hb, frS, if_pos z]
  · obtain ⟨k, hk⟩ : ∃ k, gL s = k + 1 := ⟨gL s - 1, by omega⟩
    have hq := lA_q (k := k) (by omega)
    rw [hx, if_neg (by omega), hk, Nat.add_sub_cancel, qnul_s, qpr_t (show lA k = 83 ∨ lA k = 92 ∨ lA k = 101 ∨ lA k = 110 from hq), qW_bv]
    have r2 : RelL 4 s g2 := RelL_fr r (fun b j q1 q2 => (f12.1 b j (by unfold inW; simp; omega)).1) (fun b j q1 q2 => (f12.1 b j (by unfold inW; simp; omega)).2.1)
    have wk := wl k (by omega)
    have ck : CL (lA k) (L k) g2 := k12 k _ (by omega) wk (cl k (by omega))
    refine qW_fr (k_barSquares w wk r2 hq ck z24) (fun g e => fr_X5_barSquares _ _ e) ?_
    rintro g3 ⟨b1, b2⟩ f3
    have f3 : qfr [(24, 0), (lA k + 5, 0), (lA k + 7, 0), (lA k + 8, 0)] g2 g3 := f3
    have hlk : 83 ≤ lA k := by unfold lA; omega
    have k3 : LKeep 4 g2 g3 := by
      intro k2 L2 h2 w2 c2
      by_cases e : k2 = k
      · subst e
        have hc : cnt (isB L2) (lC L2) = cnt (isB (L k2)) (lC (L k2)) := by
          have := c2.2.1.symm.trans ck.2.1
          have l1 := cnt_le (p := isB L2) (n := lC L2)
          have l2 := cnt_le (p := isB (L k2)) (n := lC (L k2))
          have l3 := w2.n.2
          have l4 := wk.n.2
          rw [nn_eq (by omega) (by omega)] at this
          exact this
        exact CL_keep c2 (fun b j h1 h2 h3 => (f3.1 b j (by unfold inW; simp; omega)).1) (fun j hj => b2 j (by rw [← hc]; omega))
      · refine CL_keep c2 (fun b j h1 h2 h3 => (f3.1 b j (by unfold lA at *; unfold inW; simp; omega)).1) (fun j hj => (f3.1 _ j (by unfold lA at *; unfold inW; simp; omega)).1)
    rw [qbd_e]
    have o3 : ∀ x y, x < 4 → y < 4 → g3.1 25 (4 * x + y) = nn 1 := fun x y hx hy => by rw [(f3.1 25 _ (by unfold inW; simp; omega)).1]; exact o25 x y hx hy
    refine qW_fr (k_aparts wk hq (k3 k _ (by omega) wk ck) o3) (fun g e => fr_X7_prepare_b108_loop _ _ _ e) ?_
    intro g4 a4 f4
    have f4 : qfr [(25, 0)] g3 g4 := f4
    refine ⟨fun i hi => ?_, fun a b ha hb => ?_, k12.tr (k3.tr (LKeep_fr f4 (fun b j h1 h2 => by unfold inW; simp; omega) (by omega)))⟩
    · rw [(f4.1 24 i rfl).2.1, b1 i hi]
      apply mkm_congr
      intro q _
      unfold brS
      rw [if_neg (by omega), hk, Nat.add_sub_cancel]
    · rw [a4 a b ha hb, frS, if_neg (by omega), hk, Nat.add_sub_cancel]
theorem k_prepare7 {h : qa_M} {s : Sg} {L : Nat → Lw} {x : Nat} (w : WF s) (r : RelL 4 s h) (hL4 : gL s ≤ 4) (wl : ∀ k, k < gL s → WL (L k)) (cl : ∀ k, k < gL s → CL (lA k) (L k) h) (hx : x = if gL s = 0 then 0 else lA (gL s - 1) + 1) :
    qW (m_X7_prepare x h) (fun g => SP s L g ∧ LKeep 4 h g) := by
  have hn := w.n
  have l4 := w.s.2
  unfold m_X7_prepare
  rw [qbd_e, qbd_e]
  unfold f_X7_prepare_b15_loop
  refine qW_for (gS s) (fun i t => ∃ g, t = (x, nn i, g) ∧ qfr [(22, 5), (26, 0)] h g ∧ g.1 22 4 = nn (sumN (mny s) i) ∧ ∀ u, u < sumN (mny s) i → g.1 26 u = nn (srt s u)) ?_ ?_ (Nat.zero_le _) ⟨qw_I h 22 4 0, rfl, qfr_Ik rfl (by simp) qfr_rf, wI_at, fun u hu => by simp [sumN] at hu⟩
  · rintro i t hi ⟨g, rfl, fg, g4, gs⟩
    obtain ⟨m1, m2⟩ := w.m hi
    have hsu : sumN (mny s) (i + 1) = sumN (mny s) i + mny s i := rfl
    have hsl : sumN (mny s) (i + 1) ≤ nT s := sumN_mono (show i + 1 ≤ gS s from hi)
    have e44 : g.1 4 4 = nn (gS s) := by rw [(fg.1 4 4 rfl).1]; exact r.1.2.2.2.2.1.trans w.s.1
    show qW (f_X7_prepare_b15 x (nn i) g) _
    unfold f_X7_prepare_b15
    rw [e44, if_neg (fun q => by rw [nn_le (by omega) (by omega)] at q; omega), qbd_e]
    unfold f_X7_prepare_b26_loop
    refine qW_for (mny s i) (fun j t => ∃ g2, t = (x, nn i, nn j, g2) ∧ qfr [(22, 5), (26, 0)] h g2 ∧ g2.1 22 4 = nn (sumN (mny s) i + j) ∧ ∀ u, u < sumN (mny s) i + j → g2.1 26 u = nn (srt s u)) ?_ ?_ (Nat.zero_le _) ⟨g, rfl, fg, g4, gs⟩
    · rintro j t hj ⟨g2, rfl, f2, g24, gs2⟩
      have e9 : g2.1 9 i = nn (mny s i) := by rw [(f2.1 9 i rfl).1]; exact (r.2.2.2.2 i hi).trans m1
      show qW (f_X7_prepare_b26 x (nn i) (nn j) g2) _
      unfold f_X7_prepare_b26
      rw [qck_nn (by omega) (by omega), nn_cl (by omega), e9, if_neg (fun q => by rw [nn_le (by omega) (by omega)] at q; omega), g24, if_neg (by rw [show (4 : Int32) = nn 4 from rfl, nn_le (by omega) (by omega)]; omega), qck_nn (by omega) (by omega), nn_cl (by omega)]
      simp only [qbd_x]
      rw [wI_ne (by omega), g24, nn_add1, nn_add1, qW_some]
      refine ⟨_, rfl, qfr_Ik rfl (by simp) (qfr_I0 (a := 26) rfl (by simp) f2), wI_at, fun u hu => ?_⟩
      rw [wI_ne (by omega)]
      by_cases c : u = sumN (mny s) i + j
      · subst c
        rw [wI_at, srt_of hi (by omega) (by omega)]
      · rw [wI_ne (fun q => c q.2)]
        exact gs2 u (by omega)
    · rintro t ⟨g2, rfl, f2, g24, gs2⟩
      have e9 : g2.1 9 i = nn (mny s i) := by rw [(f2.1 9 i rfl).1]; exact (r.2.2.2.2 i hi).trans m1
      show qW (f_X7_prepare_b26 x (nn i) (nn (mny s i)) g2) _
      unfold f_X7_prepare_b26 f_X7_prepare_b71
      rw [qck_nn (by omega) (by omega), nn_cl (by omega), e9, if_pos ((nn_le (by omega) (by omega)).mpr (by omega)), qbd_e, nn_add1, qup_s, qW_some]
      exact ⟨g2, rfl, f2, g24, gs2⟩
  · rintro t ⟨g, rfl, fg, g4, gs⟩
    have e44 : g.1 4 4 = nn (gS s) := by rw [(fg.1 4 4 rfl).1]; exact r.1.2.2.2.2.1.trans w.s.1
    show qW (f_X7_prepare_b15 x (nn (gS s)) g) _
    unfold f_X7_prepare_b15
    rw [e44, if_pos ((nn_le (by omega) (by omega)).mpr (by omega)), qW_up]
    have kg : LKeep 4 h g := LKeep_fr fg (fun b j h1 h2 => by unfold inW; simp; omega) (by omega)
    have rg : RelL 4 s g := RelL_fr r (fun b j q1 q2 => (fg.1 b j (by unfold inW; simp; omega)).1) (fun b j q1 q2 => (fg.1 b j (by unfold inW; simp; omega)).2.1)
    refine qW_fr (k_prepB77 w rg hL4 wl (fun k hk => kg k _ (by omega) (wl k hk) (cl k hk)) hx) (fun g2 e => fr_X7_prepare_b77 _ _ e) ?_
    rintro g2 ⟨a1, a2, a3⟩ f2
    exact ⟨⟨by rw [(f2.1 22 4 rfl).1]; exact g4, fun u hu => by rw [(f2.1 26 u rfl).1]; exact gs u hu, a1, a2⟩, kg.tr a3⟩
theorem k_barredAt {h : qa_M} {s : Sg} {L : Nat → Lw} (w : WF s) (r : RelL 4 s h) (sp : SP s L h) {q : Nat} (hq : q < 36) (ht : thr s q = true) : m_X7_barredAt (nn q) h = some (nn (nmk (brS s L q) (gS s)), h) := by
  have l4 := w.s.2
  have e44 : h.1 4 4 = nn (gS s) := r.1.2.2.2.2.1.trans w.s.1
  unfold m_X7_barredAt f_X7_barredAt_b4_loop
  simp only [qbd_e]
  refine qlp_for0 (fun k => (nn q, nn (nmk (brS s L q) k), nn k, h)) (gS s) ?_ ?_
  · intro k hk
    show f_X7_barredAt_b4 (nn q) _ (nn k) h = _
    unfold f_X7_barredAt_b4
    rw [e44, if_neg (fun q => by rw [nn_le (by omega) (by omega)] at q; omega), qck_nn (by omega) (by omega), nn_cl (by omega), sp.2.2.1 k (by omega), tb_g32 (by omega), tb_mkm (by omega), decide_eq_true hq, Bool.true_and, ht, Bool.true_and, qbd_e, qbd_e, nn_add1]
    have hb : ∀ k, k < 4 → ∀ b : Bool, nn (if b then 1 else 0) <<< (nn k &&& 31) = nn (if b then 2 ^ k else 0) := by decide +kernel
    rw [hb k (by omega), nn_or]
    have : nmk (brS s L q) k ||| (if brS s L q k = true then 2 ^ k else 0) = nmk (brS s L q) (k + 1) := by
      apply Nat.eq_of_testBit_eq
      intro i
      rw [Nat.testBit_or, nmk_tb, nmk_tb]
      by_cases e : i = k
      · subst e
        cases brS s L q i <;> simp
      · have : (if brS s L q k = true then 2 ^ k else 0).testBit i = false := by
          split
          · rw [Nat.testBit_two_pow, decide_eq_false (by omega)]
          · simp
        rw [this, Bool.or_false, show decide (i < k + 1) = decide (i < k) by rw [decide_eq_decide]; omega]
    rw [this]
  · show f_X7_barredAt_b4 _ _ (nn (gS s)) h = _
    unfold f_X7_barredAt_b4
    rw [e44, if_pos ((nn_le (by omega) (by omega)).mpr (by omega)), qup_s]
