/-! BOTH ARE MADE -/
def hi9 (h g : qa_M) : Prop := (∀ b j, b < 119 ∨ 167 ≤ b → g.1 b j = h.1 b j ∧ g.2.1 b j = h.2.1 b j ∧ g.2.2.1 b j = h.2.2.1 b j) ∧ g.2.2.2 = h.2.2.2
theorem hi9_rf {h : qa_M} : hi9 h h := ⟨fun _ _ _ => ⟨rfl, rfl, rfl⟩, rfl⟩
theorem hi9_z {h g : qa_M} {a : Nat} (i : hi9 h g) (ha : 119 ≤ a ∧ a ≤ 166) : hi9 h (qw_z g a) := by
  refine ⟨fun b j hb => ?_, i.2⟩
  have e := i.1 b j hb
  have n : ¬ b = a := by omega
  refine ⟨?_, ?_, ?_⟩
  · rw [← e.1]; exact if_neg n
  · rw [← e.2.1]; exact if_neg n
  · rw [← e.2.2]; exact if_neg n
theorem hi9_R {h g : qa_M} {a k v : Nat} (i : hi9 h g) (ha : 119 ≤ a ∧ a ≤ 166) : hi9 h (qw_R g a k v) := by
  refine ⟨fun b j hb => ⟨(i.1 b j hb).1, (i.1 b j hb).2.1, ?_⟩, i.2⟩
  rw [← (i.1 b j hb).2.2]
  exact if_neg (by omega)
theorem hi9_I {h g : qa_M} {a k : Nat} {v : Int32} (i : hi9 h g) (ha : 119 ≤ a ∧ a ≤ 166) : hi9 h (qw_I g a k v) := ⟨fun b j hb => ⟨by rw [wI_ne (by omega)]; exact (i.1 b j hb).1, (i.1 b j hb).2.1, (i.1 b j hb).2.2⟩, i.2⟩
def wHi : List (Nat × Nat) := (List.range 48).map (fun i => (119 + i, 0))
theorem wHi_in {b j : Nat} : inW wHi b j = true ↔ 119 ≤ b ∧ b ≤ 166 := by
  unfold inW wHi
  rw [List.any_map, List.any_eq_true]
  constructor
  · rintro ⟨i, hi, e⟩
    have hi := List.mem_range.mp hi
    simp at e
    omega
  · intro hb
    refine ⟨b - 119, List.mem_range.mpr (by omega), ?_⟩
    simp
    omega
theorem hi9_FC {h g : qa_M} (i : hi9 h g) : FC h g := by
  refine ⟨wHi, ⟨fun b j e => i.1 b j ?_, i.2⟩, fun b j hb => ?_⟩
  · apply Decidable.byContradiction
    intro c
    rw [wHi_in.mpr (by omega)] at e
    cases e
  · cases e : inW wHi b j with
    | false => rfl
    | true => have := wHi_in.mp e; omega
set_option maxRecDepth 20000 in
theorem r_made {h : qa_M} (z : ∀ j, h.1 119 j = 0) : qW (m_X12_init h) (fun g => IvR 0 (fun _ => 0) 0 (fun _ => none) g ∧ sg g = (fun _ _ => 0) ∧ hi9 h g) := by
  unfold m_X12_init
  simp only [qbd_e]
  rw [qW_some]
  refine ⟨IvR_zero (fun i j hi => ?_) ?_ ?_ ?_ (fun j => ?_), sg_zero (fun i j hi => ?_), ?_⟩
  · have k : i = 0 ∨ i = 1 ∨ i = 2 ∨ i = 3 ∨ i = 4 ∨ i = 5 ∨ i = 6 ∨ i = 7 ∨ i = 8 ∨ i = 9 ∨ i = 10 ∨ i = 11 := by omega
    rcases k with rfl | rfl | rfl | rfl | rfl | rfl | rfl | rfl | rfl | rfl | rfl | rfl <;> rfl
  · exact z 20
  · exact z 24
  · rfl
  · rfl
  · have k : i = 0 ∨ i = 1 ∨ i = 2 ∨ i = 3 ∨ i = 4 ∨ i = 5 ∨ i = 6 ∨ i = 7 ∨ i = 8 ∨ i = 9 ∨ i = 10 ∨ i = 11 := by omega
    rcases k with rfl | rfl | rfl | rfl | rfl | rfl | rfl | rfl | rfl | rfl | rfl | rfl <;> rfl
  · repeat (first | exact hi9_rf | refine hi9_z ?_ (by omega) | refine hi9_R ?_ (by omega) | refine hi9_I ?_ (by omega))
/-- what holds when both are made -/
theorem Inv_made {h : qa_M} (zl : h.2.2.2 = 0) : qW (m_X11_init (qw_z h 0)) (fun g => qW (m_X12_init (qw_z g 119)) (Inv 1)) := by
  have k0 : ∀ L : Nat → Lw, qW (m_X11_init (qw_z h 0)) (fun g => IvC (fun _ _ => 0) L 0 (fun _ => 0) 0 (fun _ => none) 1 g) := fun L => k_made (fun j => rfl) zl
  refine qW_mono (qW_all (x := m_X11_init (qw_z h 0)) (H := fun _ : Nat → Lw => True) (P := fun L g => IvC (fun _ _ => 0) L 0 (fun _ => 0) 0 (fun _ => none) 1 g) (k0 (fun _ _ _ => 0)) (fun L _ => k0 L)) ?_
  intro g hg
  refine qW_mono (r_made (h := qw_z g 119) (fun j => rfl)) ?_
  rintro y ⟨ry, es, hi⟩
  have ay := ry.al
  refine ⟨0, fun _ => 0, 0, fun _ => none, 1, Nat.le_refl _, ry, ?_⟩
  rw [es] at ay ⊢
  have h9 : hi9 g (qw_z g 119) := hi9_z hi9_rf (by omega)
  exact IvC.fc (IvC.fc (hg (lw y) trivial) ay (hi9_FC h9)) ay (hi9_FC hi)
