/-! WALKS: THE REFERENCE'S SPREAD, WHOLE -/
def ED (s : Sg) (e dd : Nat → Nat) (n j B : Nat) : Prop := ∀ q, q < B → opn s q = true → ds (e j) q ≤ 1 → ∃ j2, j2 < n ∧ e j2 = q ∧ dd j2 ≤ dd j + 1
theorem ED_new {s : Sg} {e dd : Nat → Nat} {n j B t d : Nat} (h : ED s e dd n j B) (hj : j < n) : ED s (fun j => if j = n then t else e j) (fun j => if j = n then d else dd j) (n + 1) j B := by
  intro q hq ho hd
  simp only [if_neg (show ¬ j = n by omega)] at hd ⊢
  obtain ⟨j2, a, b, c⟩ := h q hq ho hd
  refine ⟨j2, by omega, ?_, ?_⟩
  · simp only [if_neg (show ¬ j2 = n by omega)]; exact b
  · simp only [if_neg (show ¬ j2 = n by omega)]; exact c
theorem ED_up {s : Sg} {e dd : Nat → Nat} {n j B : Nat} (h : ED s e dd n j B) (hb : opn s B = true → ds (e j) B ≤ 1 → ∃ j2, j2 < n ∧ e j2 = B ∧ dd j2 ≤ dd j + 1) : ED s e dd n j (B + 1) := by
  intro q hq ho hd
  by_cases c : q = B
  · subst c
    exact hb ho hd
  · exact h q (by omega) ho hd
theorem ds_0 {a b : Nat} (h : ds a b = 0) : a = b := by unfold ds dst at h; omega
def SI (s : Sg) (a : Nat) (h g : qa_M) (n i B : Nat) (e dd : Nat → Nat) : Prop := BF s a g n e dd ∧ i < n ∧ (∀ j, j < n → dd j ≤ dd i + 1) ∧ (∀ j, j < i → ED s e dd n j 36) ∧ ED s e dd n i B ∧ qfr [(161, 0), (162, 0)] h g
theorem r_spreadIn {s : Sg} {a : Nat} {h g : qa_M} (w : WF s) (hs : sg h = s) {n i : Nat} {e dd : Nat → Nat} (si : SI s a h g n i 0 e dd) {P : ((Int32 × Int32 × qa_M) ⊕ qa_M) → Prop} (hP : ∀ g n e dd, SI s a h g n i 36 e dd → P (.inl (nn n, nn (i + 1), g))) : qW (f_X12_spreads_b49_loop (nn n) (nn i) (nn 0) g) P := by
  unfold f_X12_spreads_b49_loop
  refine qW_for 36 (fun t x => ∃ g n e dd, x = (nn n, nn i, nn t, g) ∧ SI s a h g n i t e dd) ?_ ?_ (Nat.zero_le _) ⟨g, n, e, dd, rfl, si⟩
  · rintro t x ht ⟨g, n, e, dd, rfl, bf, hi, h6, h7, h8, f⟩
    have n36 := bf.2.2.2.2.2.1
    have sG : sg g = s := by rw [sg_fr f (fun b j h1 h2 => by unfold inW; simp; omega), hs]
    have wG : WF (sg g) := by rw [sG]; exact w
    obtain ⟨i1, i2, i3, i4⟩ := bf.1 i hi
    have stay : (opn s t = true → ds (e i) t ≤ 1 → ∃ j2, j2 < n ∧ e j2 = t ∧ dd j2 ≤ dd i + 1) → qW (f_X12_spreads_b133 (nn n) (nn i) (nn t) g) (Sum.elim (fun x => ∃ g n e dd, x = (nn n, nn i, nn (t + 1), g) ∧ SI s a h g n i (t + 1) e dd) P) := by
      intro hb
      unfold f_X12_spreads_b133
      rw [qbd_e, nn_add1, qW_some]
      exact ⟨g, n, e, dd, rfl, bf, hi, h6, h7, ED_up h8 hb, f⟩
    show qW (f_X12_spreads_b49 (nn n) (nn i) (nn t) g) _
    unfold f_X12_spreads_b49
    rw [if_neg (fun q => by rw [show (36 : Int32) = nn 36 from rfl, nn_le (by omega) (by omega)] at q; omega), r_isThere wG ht, qbn_s, sG]
    rcases mb2 (thr s t) with e1 | e1
    · rw [e1, if_neg (by decide), r_isWood wG ht, qbn_s, sG]
      rcases mb2 (isW s t) with e2 | e2
      · rw [e2, if_neg (by decide)]
        refine stay (fun q => ?_)
        unfold opn at q
        rw [e2, Bool.not_true, Bool.and_false] at q
        cases q
      · have ho : opn s t = true := by unfold opn; rw [e1, e2]; rfl
        rw [e2, if_pos (by decide), qck_nn (by omega) (by omega), nn_cl (by omega), i2, r_apartOf ht i1, qbn_s]
        by_cases c1 : ds t (e i) = 1
        · rw [if_pos (by rw [c1]; rfl), qck_nn (by omega) (by omega), nn_cl (by omega)]
          by_cases c2 : g.1 161 t = 99999
          · obtain ⟨n3, bn⟩ := BF_new bf hi ht c2 ho (by rw [ds_sy]; omega) h6
            rw [if_pos c2, qck_nn (by omega) (by omega), i2, qck_nn (by omega) (by omega), qck_nn (by omega) (by omega), nn_cl (by omega), i3, qbd_e, qck_nn (by omega) (by omega), nn_cl (by omega), qbd_e, qbd_e, nn_add1]
            unfold f_X12_spreads_b133
            rw [qbd_e, nn_add1, qW_some]
            refine ⟨_, n + 1, _, _, rfl, bn, by omega, fun j hj => ?_, fun j hj => ED_new (h7 j hj) (by omega), ED_up (ED_new h8 hi) (fun _ _ => ⟨n, by omega, by simp only [if_true], by simp only [if_true, if_neg (show ¬ i = n by omega)]; exact Nat.le_refl _⟩), qfr_tr f (qfr_I0 rfl (by simp) (qfr_I0 (a := 161) rfl (by simp) qfr_rf))⟩
            by_cases c3 : j = n
            · subst c3
              simp only [if_true, if_neg (show ¬ i = j by omega)]
              exact Nat.le_refl _
            · simp only [if_neg c3, if_neg (show ¬ i = n by omega)]
              exact h6 j (by omega)
          · rw [if_neg c2]
            refine stay (fun _ _ => ?_)
            rcases bf.2.1 t ht with q | ⟨j, hj, q⟩
            · exact absurd q c2
            · exact ⟨j, hj, q, h6 j hj⟩
        · have dl : ds t (e i) < 2147483648 := by have := ds_lt ht i1; omega
          rw [if_neg (by rw [show (1 : Int32) = nn 1 from rfl, nn_eq dl (by omega)]; exact c1)]
          refine stay (fun _ q => ?_)
          rw [ds_sy] at q
          exact ⟨i, hi, (ds_0 (by omega)).symm, by omega⟩
    · rw [e1, if_pos (by decide)]
      refine stay (fun q => ?_)
      unfold opn at q
      rw [e1, Bool.false_and] at q
      cases q
  · rintro x ⟨g, n, e, dd, rfl, si⟩
    show qW (f_X12_spreads_b49 (nn n) (nn i) (nn 36) g) _
    unfold f_X12_spreads_b49 f_X12_spreads_b139
    rw [if_pos (by decide), qbd_e, nn_add1, qup_s, qW_some]
    exact hP g n e dd si
