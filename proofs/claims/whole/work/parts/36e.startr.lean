/-! THE REFERENCE IS MADE -/
theorem sg_zero {g : qa_M} (h : ∀ i j, i < 12 → g.1 (120 + i) j = 0) : sg g = fun _ _ => 0 := by
  funext i j
  by_cases c : i < 12
  · rw [sg_row c]; exact h i j c
  · exact sg_big (by omega)
theorem WF_zero : WF (fun _ _ => 0) := (DF_0 (s := fun _ _ => 0) ⟨fun _ => rfl, fun _ _ => rfl⟩).1
theorem IvR_zero {g : qa_M} (h : ∀ i j, i < 12 → g.1 (120 + i) j = 0) (h20 : g.1 119 20 = 0) (h24 : g.1 119 24 = 0) (h29 : g.1 119 29 = 7) (h6 : ∀ j, g.1 166 j = 0) : IvR 0 (fun _ => 0) 0 (fun _ => none) g := by
  have es := sg_zero h
  exact ⟨by rw [es]; exact WF_zero, fun a j h1 h2 => h a j h1, TpR_0 h20, h24, by omega, by rw [es]; exact Nat.le_refl _, fun k hk => absurd hk (Nat.not_lt_zero _), h29, fun k hk => h6 k⟩
theorem r_start {h : qa_M} (z : ∀ j, h.1 119 j = 0) : qW (m_X12_init h) (fun g => IvR 0 (fun _ => 0) 0 (fun _ => none) g) := by
  unfold m_X12_init
  simp only [qbd_e]
  rw [qW_some]
  refine IvR_zero (fun i j hi => ?_) ?_ ?_ ?_ (fun j => ?_)
  · have k : i = 0 ∨ i = 1 ∨ i = 2 ∨ i = 3 ∨ i = 4 ∨ i = 5 ∨ i = 6 ∨ i = 7 ∨ i = 8 ∨ i = 9 ∨ i = 10 ∨ i = 11 := by omega
    rcases k with rfl | rfl | rfl | rfl | rfl | rfl | rfl | rfl | rfl | rfl | rfl | rfl <;> rfl
  · exact z 20
  · exact z 24
  · rfl
  · rfl
