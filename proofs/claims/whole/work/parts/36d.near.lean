/-! THE CLASS IS MADE: the table of squares nearby -/
def nrM (d q : Nat) : Int64 := mkm (fun p => decide (ds p q < d)) 36
theorem nr_1 : ∀ q, q < 36 → q_lshl 1 (nn q) = nrM 1 q := by decide +kernel
theorem nr_g : ∀ q, q < 36 → ∀ d, d < 5 → grw (nrM (d + 1) q) = nrM (d + 2) q := by decide +kernel
theorem k_nearIn {q : Nat} {h : qa_M} {P : ((Int32 × qa_M) ⊕ qa_M) → Prop} (hq : q < 36) (r : h.2.2.1 22 0 = 24) (hP : ∀ g, (∀ d, 1 ≤ d → d < 6 → g.2.1 23 (d * 36 + q) = nrM d q) → (∀ j, (∀ d, 1 ≤ d → d < 6 → j ≠ d * 36 + q) → g.2.1 23 j = h.2.1 23 j) → qfr [(23, 0)] h g → P (.inl (nn (q + 1), g))) : qW (f_X7_init_b107_loop (nn q) (nrM 1 q) (nn 1) h) P := by
  unfold f_X7_init_b107_loop
  refine qW_for 5 (fun k z => ∃ g, z = (nn q, nrM (k + 1) q, nn (k + 1), g) ∧ (∀ d, 1 ≤ d → d < k + 1 → g.2.1 23 (d * 36 + q) = nrM d q) ∧ (∀ j, (∀ d, 1 ≤ d → d < 6 → j ≠ d * 36 + q) → g.2.1 23 j = h.2.1 23 j) ∧ qfr [(23, 0)] h g) ?_ ?_ (Nat.zero_le _) ⟨h, rfl, fun d h1 h2 => by omega, fun _ _ => rfl, qfr_rf⟩
  · rintro k z hk ⟨g, rfl, g1, g2, f⟩
    show qW (f_X7_init_b107 (nn q) (nrM (k + 1) q) (nn (k + 1)) g) _
    unfold f_X7_init_b107
    rw [if_neg (fun c => by rw [show (6 : Int32) = nn 6 from rfl, nn_le (by omega) (by omega)] at c; omega), qpr_t (by rw [(f.1 22 0 rfl).2.2, r]), show (36 : Int32) = nn 36 from rfl, nn_mul, nn_add, qck_nn (by omega) (by omega), nn_cl (by omega), qbd_e, k_grow, qbn_s, qbd_e, qbd_e, nn_add1, qW_some, nr_g q hq k hk]
    have J : ∀ (a b : Nat) (w : Int64), (qw_J g 23 ((k + 1) * 36 + q) w).2.1 a b = if a = 23 ∧ b = (k + 1) * 36 + q then w else g.2.1 a b := fun a b w => rfl
    refine ⟨_, rfl, fun d h1 h2 => ?_, fun j hj => ?_, qfr_J0 rfl (by simp) f⟩
    · rw [J]
      by_cases c : d = k + 1
      · rw [c, if_pos ⟨rfl, rfl⟩]
      · rw [if_neg (by omega)]; exact g1 d h1 (by omega)
    · rw [J, if_neg (fun c => hj (k + 1) (by omega) (by omega) c.2)]; exact g2 j hj
  · rintro z ⟨g, rfl, g1, g2, f⟩
    show qW (f_X7_init_b107 (nn q) (nrM 6 q) (nn 6) g) _
    unfold f_X7_init_b107
    rw [if_pos (by decide), qbd_e, nn_add1, qW_up, qW_some]
    exact hP g (fun d h1 h2 => g1 d h1 (by omega)) g2 f
theorem k_near {h : qa_M} (r : h.2.2.1 22 0 = 24) : qW (f_X7_init_b94_loop 0 h) (fun g => NearT g ∧ qfr [(23, 0)] h g) := by
  unfold f_X7_init_b94_loop
  refine qW_for 36 (fun k z => ∃ g, z = (nn k, g) ∧ (∀ d q, 1 ≤ d → d < 6 → q < k → g.2.1 23 (d * 36 + q) = nrM d q) ∧ qfr [(23, 0)] h g) ?_ ?_ (Nat.zero_le _) ⟨h, rfl, fun d q h1 h2 h3 => absurd h3 (Nat.not_lt_zero _), qfr_rf⟩
  · rintro k z hk ⟨g, rfl, g1, f⟩
    show qW (f_X7_init_b94 (nn k) g) _
    unfold f_X7_init_b94
    rw [if_neg (fun c => by rw [show (36 : Int32) = nn 36 from rfl, nn_le (by omega) (by omega)] at c; omega), qbd_e, qbd_e, nr_1 k hk]
    refine k_nearIn hk (by rw [(f.1 22 0 rfl).2.2, r]) ?_
    intro G a1 a2 fG
    refine ⟨G, rfl, fun d q h1 h2 h3 => ?_, qfr_tr f fG⟩
    by_cases c : q = k
    · rw [c]; exact a1 d h1 h2
    · rw [a2 _ (fun d2 h4 h5 => by omega)]; exact g1 d q h1 h2 (by omega)
  · rintro z ⟨g, rfl, g1, f⟩
    show qW (f_X7_init_b94 (nn 36) g) _
    unfold f_X7_init_b94
    rw [if_pos (by decide), qup_s, qW_some]
    exact ⟨fun d q h1 h2 h3 => g1 d q h1 h2 h3, f⟩
