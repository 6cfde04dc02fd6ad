/-! THE CLASS IS MADE -/
theorem VC_0 {x : Int32} {P : Prop} (e : x = 0) : VC x 1 P := ⟨fun q => by rw [e] at q; exact absurd q (by decide), fun u h1 h2 q => by rw [e, show (0 : Int32) = nn 0 from rfl, nn_eq (by omega) h2] at q; omega⟩
theorem th_zero : mkm (thr (fun _ _ => 0)) 36 = 0 := by decide +kernel
theorem iw_zero : mkm (isW (fun _ _ => 0)) 36 = 0 := by decide +kernel
theorem RelS_zero {b : Nat} {g : qa_M} (h0 : ∀ j, j < 6 → g.1 (b + 1) j = 0) (h6 : g.2.1 (b + 1) 6 = 0) (h7 : g.2.1 (b + 1) 7 = 0) (h1 : g.1 b 1 = 0) (h3 : g.1 b 3 = -1) (h4 : g.1 b 4 = 0) : RelS b (fun _ _ => 0) g := by
  refine ⟨⟨⟨h0 0 (by omega), h0 1 (by omega), h0 2 (by omega), h0 3 (by omega), h0 4 (by omega), h0 5 (by omega)⟩, ⟨by rw [th_zero]; exact h6, by rw [iw_zero]; exact h7⟩, fun i hi => absurd hi (Nat.not_lt_zero _), fun i hi => absurd hi (Nat.not_lt_zero _), fun i hi => absurd hi (Nat.not_lt_zero _)⟩, h1, fun m k hm => absurd hm (Nat.not_lt_zero _), h3, h4⟩
theorem IvC_zero {L : Nat → Lw} {g : qa_M} (r : RelS 3 (fun _ _ => 0) g) (e1 : g.1 1 1 = 0) (e5 : g.1 0 5 = 0) (rf : ∀ k, k < 4 → g.2.2.1 11 k = 51 + 8 * k + 1 ∧ g.2.2.1 13 k = lA k + 1) (im : ∀ k, k < 4 → g.1 12 k = 0) (nt : NearT g) (rs : RS g) (v1 : g.1 0 13 = 1) (v2 : g.1 0 14 = 0) (v3 : g.1 34 0 = 0) (v4 : g.1 40 4 = 0) (v5 : g.1 40 12 = 0) : IvC (fun _ _ => 0) L 0 (fun _ => 0) 0 (fun _ => none) 1 g :=
  ⟨⟨r, TpC_0 e1, e5, fun k hk => absurd hk (Nat.not_lt_zero _), rf, im, nt, rs⟩, ⟨v1, VC_0 v2, VC_0 v3, VC_0 v4, VC_0 v5⟩⟩
set_option maxRecDepth 20000 in
theorem k_made {h : qa_M} {L : Nat → Lw} (z : ∀ j, h.1 0 j = 0) (zl : h.2.2.2 = 0) : qW (m_X11_init h) (fun g => IvC (fun _ _ => 0) L 0 (fun _ => 0) 0 (fun _ => none) 1 g) := by
  unfold m_X11_init m_X9_init m_X8_init m_X3_init m_X4_init m_X6_init m_X7_init m_X1_init m_X0_init m_X10_init m_X5_init
  simp only [qbd_e, qbv_s]
  rw [qpr_t (by rfl), qpr_t (by rfl), qpr_t (by rfl), qpr_t (by rfl), qW_bv]
  refine qW_mono (k_near (by rfl)) ?_
  rintro g ⟨nt, f⟩
  have e2 : g.2.2.1 0 2 = 11 + 1 := (f.1 0 2 rfl).2.2.trans rfl
  have e4 : g.2.2.1 0 4 = 13 + 1 := (f.1 0 4 rfl).2.2.trans rfl
  have i1 : ∀ b j, b ≠ 23 → inW [(23, 0)] b j = false := fun b j hb => by unfold inW; simp; omega
  rw [qpr_t (by exact e2), qpr_t (by exact e2), qpr_t (by exact e2), qpr_t (by exact e2), qpr_t (by exact e4), qpr_t (by exact e4), qpr_t (by exact e4), qpr_t (by exact e4), qW_some]
  refine IvC_zero (RelS_zero (fun j hj => ?_) ?_ ?_ ?_ ?_ ?_) ?_ ?_ (fun k hk => ?_) (fun k hk => ?_) ?_ ?_ ?_ ?_ ?_ ?_ ?_
  · show g.1 4 j = 0
    rw [(f.1 4 j rfl).1]; rfl
  · show g.2.1 4 6 = 0
    rw [(f.1 4 6 rfl).2.1]; rfl
  · show g.2.1 4 7 = 0
    rw [(f.1 4 7 rfl).2.1]; rfl
  · show g.1 3 1 = 0
    rw [(f.1 3 1 rfl).1]; rfl
  · show g.1 3 3 = -1
    rw [(f.1 3 3 rfl).1]; rfl
  · show g.1 3 4 = 0
    rw [(f.1 3 4 rfl).1]; rfl
  · show g.1 1 1 = 0
    rw [(f.1 1 1 rfl).1]; rfl
  · show g.1 0 5 = 0
    rw [(f.1 0 5 rfl).1]; exact z 5
  · have : k = 0 ∨ k = 1 ∨ k = 2 ∨ k = 3 := by omega
    rcases this with rfl | rfl | rfl | rfl <;> exact ⟨rfl, rfl⟩
  · show g.1 12 k = 0
    rw [(f.1 12 k rfl).1]; rfl
  · exact fun d q h1 h2 h3 => nt d q h1 h2 h3
  · refine .inl ⟨rfl, ?_⟩
    show g.2.2.2 = 0
    rw [f.2]; exact zl
  · rfl
  · show g.1 0 14 = 0
    rw [(f.1 0 14 rfl).1]; exact z 14
  · rfl
  · rfl
  · rfl
