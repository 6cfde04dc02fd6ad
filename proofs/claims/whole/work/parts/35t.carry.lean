/-! IMAGES: the reference carries -/
theorem r_carry0 {a1 len p : Nat} {h : qa_M} (e : ∀ g, (qO g)[a1]? = some (.inr (0, len))) (ha : a1 ≠ 165 ∧ a1 ≠ 119) (hp : p + len ≤ 520) (e2 : h.1 119 62 = nn p) (e3 : h.1 119 63 = 0) : qW (m_X12_carry a1 h) (fun g => g.1 119 62 = nn (p + len) ∧ (∀ j, j < len → g.1 165 (p + j) = h.1 a1 j) ∧ (∀ j, j < p ∨ p + len ≤ j → g.1 165 j = h.1 165 j) ∧ qfr [(119, 63), (165, 0)] h g) := by
  unfold m_X12_carry f_X12_carry_b2_loop
  rw [qbd_e]
  refine qW_for len (fun k z => ∃ g, z = (nn k, g) ∧ g.1 119 62 = nn (p + k) ∧ (∀ j, j < k → g.1 165 (p + j) = h.1 a1 j) ∧ (∀ j, j < p ∨ p + k ≤ j → g.1 165 j = h.1 165 j) ∧ qfr [(119, 63), (165, 0)] h g) ?_ ?_ (Nat.zero_le _) ⟨h, rfl, e2, fun j hj => absurd hj (Nat.not_lt_zero _), fun _ _ => rfl, qfr_rf⟩
  · rintro k z hk ⟨g, rfl, g1, g2, g3, f⟩
    show qW (f_X12_carry_b2 a1 (nn k) g) _
    have g63 : g.1 119 63 = 0 := (f.1 119 63 rfl).1.trans e3
    have ga : g.1 a1 k = h.1 a1 k := (f.1 a1 k (by unfold inW; simp; omega)).1
    unfold f_X12_carry_b2 f_X12_carry_b42
    rw [qal_s (e g), nn_ofN, if_neg (fun q => by rw [nn_le (by omega) (by omega)] at q; omega), if_pos g63, qal_s (e g), qck_nn hk (by omega), g1, qck_nn (by omega) (by omega), nn_cl (by omega), nn_cl (by omega), qbd_e, qbd_e, qbd_e, wI_ne (by omega), g1, nn_add1, nn_add1, qW_some]
    refine ⟨_, rfl, ?_, fun j hj => ?_, fun j hj => ?_, qfr_Ik rfl (by simp) (qfr_I0 rfl (by simp) f)⟩
    · rw [wI_at, Nat.add_assoc]
    · rw [wI_ne (by omega)]
      by_cases c : j = k
      · rw [c, wI_at, ga]
      · rw [wI_ne (by omega)]; exact g2 j (by omega)
    · rw [wI_ne (by omega), wI_ne (by omega)]; exact g3 j (by omega)
  · rintro z ⟨g, rfl, g1, g2, g3, f⟩
    show qW (f_X12_carry_b2 a1 (nn len) g) _
    unfold f_X12_carry_b2
    rw [qal_s (e g), nn_ofN, if_pos ((nn_le (by omega) (by omega)).mpr (Nat.le_refl _)), qup_s, qW_some]
    exact ⟨g1, g2, g3, f⟩
theorem r_carry1 {a1 len p : Nat} {h : qa_M} (e : ∀ g, (qO g)[a1]? = some (.inr (0, len))) (ha : a1 ≠ 165 ∧ a1 ≠ 119) (hp : p + len ≤ 520) (e2 : h.1 119 62 = nn p) (e3 : h.1 119 63 = 1) : qW (m_X12_carry a1 h) (fun g => g.1 119 62 = nn (p + len) ∧ (∀ j, j < len → g.1 a1 j = h.1 165 (p + j)) ∧ (∀ j, len ≤ j → g.1 a1 j = h.1 a1 j) ∧ qfr [(119, 63), (a1, 0)] h g) := by
  unfold m_X12_carry f_X12_carry_b2_loop
  rw [qbd_e]
  refine qW_for len (fun k z => ∃ g, z = (nn k, g) ∧ g.1 119 62 = nn (p + k) ∧ (∀ j, j < k → g.1 a1 j = h.1 165 (p + j)) ∧ (∀ j, k ≤ j → g.1 a1 j = h.1 a1 j) ∧ qfr [(119, 63), (a1, 0)] h g) ?_ ?_ (Nat.zero_le _) ⟨h, rfl, e2, fun j hj => absurd hj (Nat.not_lt_zero _), fun _ _ => rfl, qfr_rf⟩
  · rintro k z hk ⟨g, rfl, g1, g2, g3, f⟩
    show qW (f_X12_carry_b2 a1 (nn k) g) _
    have g63 : ¬ g.1 119 63 = 0 := by rw [(f.1 119 63 (by unfold inW; simp; omega)).1, e3]; decide
    have ga : g.1 165 (p + k) = h.1 165 (p + k) := (f.1 165 _ (by unfold inW; simp; omega)).1
    unfold f_X12_carry_b2 f_X12_carry_b42
    rw [qal_s (e g), nn_ofN, if_neg (fun q => by rw [nn_le (by omega) (by omega)] at q; omega), if_neg g63, g1, qck_nn (by omega) (by omega), qal_s (e g), qck_nn hk (by omega), nn_cl (by omega), nn_cl (by omega), qbd_e, qbd_e, qbd_e, wI_ne (by omega), g1, nn_add1, nn_add1, qW_some]
    refine ⟨_, rfl, ?_, fun j hj => ?_, fun j hj => ?_, qfr_Ik rfl (by simp) (qfr_I0 rfl (by simp) f)⟩
    · rw [wI_at, Nat.add_assoc]
    · rw [wI_ne (by omega)]
      by_cases c : j = k
      · rw [c, wI_at, ga]
      · rw [wI_ne (by omega)]; exact g2 j (by omega)
    · rw [wI_ne (by omega), wI_ne (by omega)]; exact g3 j (by omega)
  · rintro z ⟨g, rfl, g1, g2, g3, f⟩
    show qW (f_X12_carry_b2 a1 (nn len) g) _
    unfold f_X12_carry_b2
    rw [qal_s (e g), nn_ofN, if_pos ((nn_le (by omega) (by omega)).mpr (Nat.le_refl _)), qup_s, qW_some]
    exact ⟨g1, g2, g3, f⟩
theorem off_le : ∀ i, i ≤ 12 → off12 i ≤ 126 := by decide
theorem off_mono : ∀ i, i < 12 → ∀ a, a < i → off12 a + len12 a ≤ off12 i := by decide
/-- saving: the first i rows are carried -/
def CS0 (k i : Nat) (h g : qa_M) : Prop := g.1 119 62 = nn (130 * k + off12 i) ∧ g.1 119 63 = 0 ∧ (∀ a j, a < i → j < len12 a → g.1 165 (130 * k + off12 a + j) = h.1 (120 + a) j) ∧ (∀ j, j < 130 * k ∨ 130 * k + 126 ≤ j → g.1 165 j = h.1 165 j) ∧ qfr [(119, 63), (119, 64), (165, 0)] h g
theorem CS0_st {k i : Nat} {h g : qa_M} (hk : k < 4) (hi : i < 12) (e : ∀ g, (qO g)[120 + i]? = some (.inr (0, len12 i))) (c : CS0 k i h g) : qW (m_X12_carry (120 + i) g) (CS0 k (i + 1) h) := by
  obtain ⟨c1, c2, c3, c4, f⟩ := c
  have o1 := off_le (i + 1) (by omega)
  have o2 : off12 (i + 1) = off12 i + len12 i := rfl
  refine qW_mono (r_carry0 e (by omega) (p := 130 * k + off12 i) (by omega) c1 c2) ?_
  rintro G ⟨z1, z2, z3, fG⟩
  refine ⟨by rw [z1, o2, Nat.add_assoc], (fG.1 119 63 rfl).1.trans c2, fun a j h1 h2 => ?_, fun j hj => ?_, qfr_tr f (qfr_sub (qsub_c (by simp) (qsub_c (by simp) qsub_nil)) fG)⟩
  · by_cases ca : a = i
    · subst ca
      rw [z2 j h2]
      exact (f.1 _ _ (by unfold inW; simp; omega)).1
    · have := off_mono i hi a (by omega)
      rw [z3 _ (by omega)]
      exact c3 a j (by omega) h2
  · rw [z3 j (by omega)]
    exact c4 j hj
/-- bringing back: the first i rows are carried -/
def CS1 (k i : Nat) (h g : qa_M) : Prop := g.1 119 62 = nn (130 * k + off12 i) ∧ g.1 119 63 = 1 ∧ (∀ a j, a < i → j < len12 a → g.1 (120 + a) j = h.1 165 (130 * k + off12 a + j)) ∧ (∀ a j, a < 12 → len12 a ≤ j → g.1 (120 + a) j = h.1 (120 + a) j) ∧ qfr [(119, 63), (119, 64), (120, 0), (121, 0), (122, 0), (123, 0), (124, 0), (125, 0), (126, 0), (127, 0), (128, 0), (129, 0), (130, 0), (131, 0)] h g
theorem CS1_st {k i : Nat} {h g : qa_M} (hk : k < 4) (hi : i < 12) (e : ∀ g, (qO g)[120 + i]? = some (.inr (0, len12 i))) (hm : (120 + i, 0) ∈ [(119, 63), (119, 64), (120, 0), (121, 0), (122, 0), (123, 0), (124, 0), (125, 0), (126, 0), (127, 0), (128, 0), (129, 0), (130, 0), (131, 0)]) (c : CS1 k i h g) : qW (m_X12_carry (120 + i) g) (CS1 k (i + 1) h) := by
  obtain ⟨c1, c2, c3, c4, f⟩ := c
  have o1 := off_le (i + 1) (by omega)
  have o2 : off12 (i + 1) = off12 i + len12 i := rfl
  refine qW_mono (r_carry1 e (by omega) (p := 130 * k + off12 i) (by omega) c1 c2) ?_
  rintro G ⟨z1, z2, z3, fG⟩
  refine ⟨by rw [z1, o2, Nat.add_assoc], ((fG.1 119 63 (by unfold inW; simp; omega)).1).trans c2, fun a j h1 h2 => ?_, fun a j h1 h2 => ?_, qfr_tr f (qfr_sub (qsub_c (by simp) (qsub_c hm qsub_nil)) fG)⟩
  · by_cases ca : a = i
    · subst ca
      rw [z2 j h2]
      exact (f.1 165 _ rfl).1
    · rw [(fG.1 (120 + a) j (by unfold inW; simp; omega)).1]
      exact c3 a j (by omega) h2
  · by_cases ca : a = i
    · subst ca
      rw [z3 j h2]
      exact c4 a j h1 h2
    · rw [(fG.1 (120 + a) j (by unfold inW; simp; omega)).1]
      exact c4 a j h1 h2
