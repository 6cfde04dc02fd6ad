/-! WALKS: THE REFERENCE'S SPREAD, ITS END -/
theorem BF_end {s : Sg} {a n : Nat} {g : qa_M} {e dd : Nat → Nat} (ha : a < 36) (bf : BF s a g n e dd) (ed : ∀ j, j < n → ED s e dd n j 36) {q : Nat} (hq : q < 36) : g.1 161 q = oN 99999 (fsA (fun k => tb (rm s a k) q) 36) := by
  obtain ⟨b1, b2, ⟨b3, b4, b5⟩, b6, b7, b8, b9⟩ := bf
  have ne9 : ∀ d, d ≤ 36 → ¬ nn d = 99999 := fun d hd q => by
    rw [show (99999 : Int32) = nn 99999 from rfl, nn_eq (by omega) (by omega)] at q
    omega
  obtain ⟨D, hD⟩ : ∃ D : Nat → Option Nat, D = fun q => if g.1 161 q = 99999 then none else some (cN (g.1 161 q)) := ⟨_, rfl⟩
  have De : ∀ j, j < n → D (e j) = some (dd j) := by
    intro j hj
    obtain ⟨c1, c2, c3, c4⟩ := b1 j hj
    rw [hD]
    show (if g.1 161 (e j) = 99999 then none else some (cN (g.1 161 (e j)))) = _
    rw [c3, if_neg (ne9 _ (by omega)), cN_nn (by omega)]
  have Dj : ∀ q d, q < 36 → D q = some d → ∃ j, j < n ∧ e j = q ∧ dd j = d := by
    intro q d hq h
    rcases b2 q hq with c | ⟨j, hj, c⟩
    · rw [hD] at h
      have h : (if g.1 161 q = 99999 then none else some (cN (g.1 161 q))) = some d := h
      rw [if_pos c] at h
      cases h
    · have := De j hj
      rw [c, h] at this
      cases this
      exact ⟨j, hj, c, rfl⟩
  have lv : LV s a D := by
    refine ⟨?_, fun q d hq h => ?_, fun p q d hp hq h ho hd => ?_⟩
    · have := De 0 b3
      rw [b4, b5] at this
      exact this
    · obtain ⟨j, hj, rfl, rfl⟩ := Dj q d hq h
      by_cases c : j = 0
      · subst c
        exact .inl ⟨b4, b5⟩
      · obtain ⟨c1, p, c2, c3, c4⟩ := b6 j (by omega) hj
        exact .inr ⟨c1, e p, dd p, (b1 p c2).1, c3, De p c2, c4⟩
    · obtain ⟨j, hj, rfl, rfl⟩ := Dj p d hp h
      obtain ⟨j2, c1, rfl, c3⟩ := ed j hj q hq ho hd
      exact ⟨dd j2, c3, De j2 c1⟩
  rw [LV_is ha lv hq (fun d h => by
    obtain ⟨j, hj, -, rfl⟩ := Dj q d hq h
    have := (b1 j hj).2.2.2
    omega)]
  rcases b2 q hq with c | ⟨j, hj, c⟩
  · rw [hD]
    show _ = oN 99999 (if g.1 161 q = 99999 then none else some (cN (g.1 161 q)))
    rw [if_pos c]
    exact c
  · rw [← c, De j hj]
    exact (b1 j hj).2.2.1
theorem r_spreads {s : Sg} {h : qa_M} (w : WF s) (hs : sg h = s) {a : Nat} (ha : a < 36) : qW (m_X12_spreads (nn a) h) (fun g => ∀ q, q < 36 → g.1 161 q = oN 99999 (fsA (fun k => tb (rm s a k) q) 36)) := by
  unfold m_X12_spreads
  rw [qbd_e]
  unfold f_X12_spreads_b2_loop
  refine qW_for 36 (fun k t => ∃ g, t = (nn a, nn k, g) ∧ qfr [(161, 0), (162, 0)] h g ∧ ∀ j, j < k → g.1 161 j = 99999) ?_ ?_ (Nat.zero_le _) ⟨h, rfl, qfr_rf, fun i hi => by omega⟩
  · rintro k t hk ⟨g, rfl, f, z⟩
    show qW (f_X12_spreads_b2 (nn a) (nn k) g) _
    unfold f_X12_spreads_b2
    rw [if_neg (fun q => by rw [show (36 : Int32) = nn 36 from rfl, nn_le (by omega) (by omega)] at q; omega), qck_nn (by omega) (by omega), nn_cl (by omega), qbd_e, qbd_e, nn_add1, qW_some]
    refine ⟨_, rfl, qfr_tr f (qfr_I0 rfl (by simp) qfr_rf), fun i hi => ?_⟩
    by_cases c : i = k
    · subst c
      exact wI_at
    · rw [wI_ne (by omega)]
      exact z i (by omega)
  · rintro t ⟨g, rfl, f, z⟩
    show qW (f_X12_spreads_b2 (nn a) (nn 36) g) _
    unfold f_X12_spreads_b2 f_X12_spreads_b23
    rw [if_pos (by decide), qW_up, qck_nn (by omega) (by omega), nn_cl (by omega), qbd_e, qck_ok (i := 0) (by decide), qbd_e, qbd_e, qbd_e, show (0 : Int32).toNatClampNeg = 0 from rfl]
    obtain ⟨G, hG⟩ : ∃ G, G = qw_I (qw_I g 161 a 0) 162 0 (nn a) := ⟨_, rfl⟩
    rw [← hG]
    have fG : qfr [(161, 0), (162, 0)] h G := by rw [hG]; exact qfr_tr f (qfr_I0 rfl (by simp) (qfr_I0 (a := 161) rfl (by simp) qfr_rf))
    have c0 : cnt (fun q => !decide (g.1 161 q = 99999)) 36 = 0 := by
      rw [cnt_congr (q := fun _ => false) (fun k hk => by rw [decide_eq_true (z k hk)]; rfl)]
      decide
    have bf : BF s a G 1 (fun _ => a) (fun _ => 0) := by
      refine ⟨fun j hj => ?_, fun q hq => ?_, ⟨by omega, rfl, rfl⟩, fun j h1 h2 => by omega, fun j j2 _ _ => Nat.le_refl _, by omega, ?_⟩
      · have : j = 0 := by omega
        subst this
        exact ⟨ha, by rw [hG, wI_at], by rw [hG, wI_ne (by omega), wI_at]; rfl, Nat.le_refl _⟩
      · by_cases c : q = a
        · exact .inr ⟨0, by omega, c.symm⟩
        · rw [hG, wI_ne (by omega), wI_ne (fun x => c x.2)]
          exact .inl (z q hq)
      · rw [hG, cnt_flip (p := fun q => !decide (g.1 161 q = 99999)) (t := a) (by rw [decide_eq_true (z a ha)]; rfl) (by rw [wI_ne (by omega), wI_at]; rfl) (fun q hq => by rw [wI_ne (by omega), wI_ne (fun x => hq x.2)]), c0, if_pos ha]
    unfold f_X12_spreads_b41_loop
    refine qW_lp (fun m t => ∃ g n i e dd, t = (nn n, nn i, g) ∧ m + i = 37 ∧ BF s a g n e dd ∧ i ≤ n ∧ (∀ j, j < i → ED s e dd n j 36) ∧ (i < n → ∀ j, j < n → dd j ≤ dd i + 1) ∧ qfr [(161, 0), (162, 0)] h g) ?_ 37 _ ⟨G, 1, 0, fun _ => a, fun _ => 0, rfl, rfl, bf, by omega, fun j hj => by omega, fun _ _ _ => Nat.zero_le _, fG⟩
    rintro m t ⟨g, n, i, e, dd, rfl, hm, bf, hin, h7, h6, f⟩
    have n36 := bf.2.2.2.2.2.1
    show qW (f_X12_spreads_b41 (nn n) (nn i) g) _
    unfold f_X12_spreads_b41
    by_cases c : n ≤ i
    · rw [if_pos ((nn_le (by omega) (by omega)).mpr c), qup_s, qW_some]
      intro q hq
      exact BF_end ha bf (fun j hj => h7 j (by omega)) hq
    · rw [if_neg (fun q => c ((nn_le (by omega) (by omega)).mp q)), qbd_e]
      refine r_spreadIn (a := a) w hs ⟨bf, by omega, h6 (by omega), h7, fun q hq => by omega, f⟩ ?_
      rintro g2 n2 e2 dd2 ⟨bf2, i2, h62, h72, h82, f2⟩
      refine ⟨m - 1, by omega, g2, n2, i + 1, e2, dd2, rfl, by omega, bf2, by omega, fun j hj => ?_, fun hj j hj2 => ?_, f2⟩
      · by_cases d : j = i
        · subst d
          exact h82
        · exact h72 j (by omega)
      · have := h62 j hj2
        have := bf2.2.2.2.2.1 i (i + 1) (by omega) hj
        omega
