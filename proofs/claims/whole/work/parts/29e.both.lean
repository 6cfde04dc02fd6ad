/-! THE REFERENCE'S COUNTS OF TWO LOOKS -/
def ix (i a j b : Nat) : Nat := ((i * 16 + a) * 8 + j) * 16 + b
theorem ix_lt {i a j b : Nat} (h1 : i < 8) (h2 : a < 16) (h3 : j < 8) (h4 : b < 16) : ix i a j b < 16384 := by unfold ix; omega
theorem ix_eq {i a j b i2 a2 j2 b2 : Nat} (h2 : a < 16) (h3 : j < 8) (h4 : b < 16) (g2 : a2 < 16) (g3 : j2 < 8) (g4 : b2 < 16) : ix i a j b = ix i2 a2 j2 b2 ↔ i = i2 ∧ a = a2 ∧ j = j2 ∧ b = b2 := by unfold ix; omega
theorem r_cell {i a j b : Nat} {h : qa_M} : m_X12_cell (nn i) (nn a) (nn j) (nn b) h = some (nn (ix i a j b), h) := by
  unfold m_X12_cell ix
  rw [show (16 : Int32) = nn 16 from rfl, show (8 : Int32) = nn 8 from rfl, nn_mul, nn_add, nn_mul, nn_add, nn_mul, nn_add]
def twV (s : Sg) (V W : Int64) (D : List (List Nat)) (a b : Nat) : Nat := D.countP (fun l => decide (tld s V l = a ∧ tld s W l = b))
theorem twV_same {s : Sg} {V : Int64} {D : List (List Nat)} {c : Nat} : twV s V V D c c = tlV s V D c := by
  unfold twV tlV
  apply List.countP_congr
  intro l _
  simp
theorem twV_le {s : Sg} {V W : Int64} {D : List (List Nat)} {a b : Nat} : twV s V W D a b ≤ D.length := List.countP_le_length
theorem r_bothIn {s : Sg} {h : qa_M} {x1 : Int32} (w : WF s) (hs : sg h = s) {T : Nat → Nat} (hT : ∀ i, i < gH s → T i < 16 ∧ h.1 158 i = nn (T i)) {P : ((Int32 × qa_M) ⊕ qa_M) → Prop}
    (hP : ∀ g, qfr [(159, 0)] h g → (∀ i a j b, i < gH s → a < 16 → j < gH s → b < 16 → g.1 159 (ix i a j b) = h.1 159 (ix i a j b) + nn (if T i = a ∧ T j = b then 1 else 0)) → P (.inl (x1, g))) : qW (f_X12_fillsBoth_b112_loop x1 (nn 0) h) P := by
  have l8 := w.h.2
  have e2 : ∀ g, qfr [(159, 0)] h g → g.1 120 2 = nn (gH s) := fun g f => by
    rw [(f.1 120 2 rfl).1]
    have := w.h.1
    rw [← hs] at this ⊢
    exact this
  unfold f_X12_fillsBoth_b112_loop
  refine qW_for (gH s) (fun k t => ∃ g, t = (x1, nn k, g) ∧ qfr [(159, 0)] h g ∧ ∀ i a j b, i < gH s → a < 16 → j < gH s → b < 16 → g.1 159 (ix i a j b) = h.1 159 (ix i a j b) + nn (if i < k ∧ T i = a ∧ T j = b then 1 else 0)) ?_ ?_ (Nat.zero_le _) ⟨h, rfl, qfr_rf, fun i a j b _ _ _ _ => by rw [if_neg (by omega)]; exact (Int32.add_zero _).symm⟩
  · rintro k t hk ⟨g, rfl, f, hg⟩
    show qW (f_X12_fillsBoth_b112 x1 (nn k) g) _
    unfold f_X12_fillsBoth_b112
    rw [qck_ok (i := 2) (by decide), show (2 : Int32).toNatClampNeg = 2 from rfl, e2 g f, if_neg (fun q => by rw [nn_le (by omega) (by omega)] at q; omega), qbd_e]
    unfold f_X12_fillsBoth_b124_loop
    refine qW_for (gH s) (fun n t => ∃ g, t = (x1, nn k, nn n, g) ∧ qfr [(159, 0)] h g ∧ ∀ i a j b, i < gH s → a < 16 → j < gH s → b < 16 → g.1 159 (ix i a j b) = h.1 159 (ix i a j b) + nn (if (i < k ∨ (i = k ∧ j < n)) ∧ T i = a ∧ T j = b then 1 else 0)) ?_ ?_ (Nat.zero_le _) ⟨g, rfl, f, fun i a j b h1 h2 h3 h4 => by
      rw [hg i a j b h1 h2 h3 h4]
      congr 2
      have : (i < k ∧ T i = a ∧ T j = b) ↔ ((i < k ∨ (i = k ∧ j < 0)) ∧ T i = a ∧ T j = b) := by omega
      simp only [this]⟩
    · rintro n t hn ⟨g, rfl, f, hg⟩
      have tk := hT k hk
      have tn := hT n hn
      show qW (f_X12_fillsBoth_b124 x1 (nn k) (nn n) g) _
      unfold f_X12_fillsBoth_b124
      rw [qck_ok (i := 2) (by decide), show (2 : Int32).toNatClampNeg = 2 from rfl, e2 g f, if_neg (fun q => by rw [nn_le (by omega) (by omega)] at q; omega), qck_nn (by omega) (by omega), qck_nn (by omega) (by omega), nn_cl (by omega), nn_cl (by omega), (f.1 158 k rfl).1, (f.1 158 n rfl).1, tk.2, tn.2, r_cell, qbn_s]
      have il := ix_lt (show k < 8 by omega) tk.1 (show n < 8 by omega) tn.1
      rw [qck_nn (by omega) (by omega), qck_nn (by omega) (by omega), nn_cl (by omega), qbd_e, qbd_e, nn_add1, qW_some]
      refine ⟨_, rfl, qfr_tr f (qfr_I0 rfl (by simp) qfr_rf), fun i a j b h1 h2 h3 h4 => ?_⟩
      by_cases c : ix i a j b = ix k (T k) n (T n)
      · have cc := (ix_eq h2 (by omega) h4 tk.1 (by omega) tn.1).mp c
        obtain ⟨rfl, rfl, rfl, rfl⟩ := cc
        rw [wI_at, hg i (T i) j (T j) h1 h2 h3 h4, if_neg (by omega), if_pos ⟨by omega, rfl, rfl⟩, Int32.add_assoc]
        rfl
      · have cc := fun q => c ((ix_eq h2 (by omega) h4 tk.1 (by omega) tn.1).mpr q)
        rw [wI_ne (fun q => c q.2), hg i a j b h1 h2 h3 h4]
        congr 2
        have : ((i < k ∨ (i = k ∧ j < n)) ∧ T i = a ∧ T j = b) ↔ ((i < k ∨ (i = k ∧ j < n + 1)) ∧ T i = a ∧ T j = b) := by
          constructor
          · rintro ⟨q1, q2⟩
            exact ⟨by omega, q2⟩
          · rintro ⟨q1, rfl, rfl⟩
            refine ⟨?_, rfl, rfl⟩
            rcases q1 with q1 | ⟨rfl, q1⟩
            · exact .inl q1
            · refine .inr ⟨rfl, ?_⟩
              by_cases d : j = n
              · subst d
                exact absurd ⟨rfl, rfl, rfl, rfl⟩ cc
              · omega
        simp only [this]
    · rintro t ⟨g, rfl, f, hg⟩
      show qW (f_X12_fillsBoth_b124 x1 (nn k) (nn (gH s)) g) _
      unfold f_X12_fillsBoth_b124 f_X12_fillsBoth_b166
      rw [qck_ok (i := 2) (by decide), show (2 : Int32).toNatClampNeg = 2 from rfl, e2 g f, if_pos ((nn_le (by omega) (by omega)).mpr (by omega)), qbd_e, nn_add1, qup_s, qW_some]
      refine ⟨g, rfl, f, fun i a j b h1 h2 h3 h4 => ?_⟩
      rw [hg i a j b h1 h2 h3 h4]
      congr 2
      have : ((i < k ∨ (i = k ∧ j < gH s)) ∧ T i = a ∧ T j = b) ↔ (i < k + 1 ∧ T i = a ∧ T j = b) := by omega
      simp only [this]
  · rintro t ⟨g, rfl, f, hg⟩
    show qW (f_X12_fillsBoth_b112 x1 (nn (gH s)) g) _
    unfold f_X12_fillsBoth_b112 f_X12_fillsBoth_b172
    rw [qck_ok (i := 2) (by decide), show (2 : Int32).toNatClampNeg = 2 from rfl, e2 g f, if_pos ((nn_le (by omega) (by omega)).mpr (by omega)), qup_s, qW_some]
    refine hP g f (fun i a j b h1 h2 h3 h4 => ?_)
    rw [hg i a j b h1 h2 h3 h4]
    congr 2
    have : (i < gH s ∧ T i = a ∧ T j = b) ↔ (T i = a ∧ T j = b) := by omega
    simp only [this]
