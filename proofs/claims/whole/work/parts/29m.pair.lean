/-! THE CLASS'S PAIRS OF ONE BATCH -/
theorem k_pairsOf {s : Sg} {L : Nat → Lw} {S : Nat} {h : qa_M} (w : WF s) {b : List Nat × Int64} (hb : b ∈ batC s L S) (e15 : h.2.1 22 15 = b.2) (lr : LR h) (h7 : h.1 40 7 = nn (gH s)) (hV : ∀ i, i < gH s → h.2.1 7 i = vw s 0 i) {A B : Nat → Nat} (hA : ∀ i, A i = andn (2 ^ gS s - 1) (sOn s (vw s 0 i) b.1)) (hB : ∀ i, B i = andn (A i) (2 ^ (if nT s = 0 then 0 else srt s (nT s - 1)))) (hR : ∀ i, i < gH s → h.1 45 i = nn (A i) ∧ h.1 46 i = nn (B i) ∧ h.1 47 i = nn (bc (b.2 &&& vw s 0 i))) :
    qW (f_X0_countPairs_b98 (nn (bc b.2)) h) (fun g => qfr [(167, 0)] h g ∧ ∀ i j a c, i ≤ j → j < gH s → a < 16 → c < 16 → g.1 167 (spI i j a c) = h.1 167 (spI i j a c) + nn (twV s (vw s 0 i) (vw s 0 j) (flC s b) a c)) := by
  have l8 := w.h.2
  have hA16 : ∀ i, A i < 16 := fun i => by rw [hA]; exact (andn_16 w (y := 0)).1
  have hB16 : ∀ i, B i < 16 := fun i => by rw [hB, hA]; exact (andn_16 w).2
  have vh : ∀ i k, 36 ≤ k → tb (vw s 0 i) k = false := fun i k hk => by
    unfold vw
    rw [if_pos rfl]
    exact sees_hi hk
  unfold f_X0_countPairs_b98
  rw [qbd_e]
  unfold f_X0_countPairs_b101_loop
  refine qW_for (gH s) (fun k t => ∃ g, t = (nn (bc b.2), nn k, g) ∧ qfr [(167, 0)] h g ∧ ∀ i j a c, i ≤ j → j < gH s → a < 16 → c < 16 → g.1 167 (spI i j a c) = h.1 167 (spI i j a c) + nn (if i < k then twV s (vw s 0 i) (vw s 0 j) (flC s b) a c else 0)) ?_ ?_ (Nat.zero_le _) ⟨h, rfl, qfr_rf, fun i j a c _ _ _ _ => by rw [if_neg (by omega)]; exact (Int32.add_zero _).symm⟩
  · rintro k t hk ⟨g, rfl, f, hg⟩
    show qW (f_X0_countPairs_b101 (nn (bc b.2)) (nn k) g) _
    unfold f_X0_countPairs_b101
    rw [(f.1 40 7 rfl).1, h7, if_neg (fun q => by rw [nn_le (by omega) (by omega)] at q; omega), qbd_e]
    unfold f_X0_countPairs_b114_loop
    refine qW_for (gH s) (fun n t => k ≤ n ∧ ∃ g, t = (nn (bc b.2), nn k, nn n, g) ∧ qfr [(167, 0)] h g ∧ ∀ i j a c, i ≤ j → j < gH s → a < 16 → c < 16 → g.1 167 (spI i j a c) = h.1 167 (spI i j a c) + nn (if i < k ∨ (i = k ∧ j < n) then twV s (vw s 0 i) (vw s 0 j) (flC s b) a c else 0)) ?_ ?_ (Nat.le_of_lt hk) ⟨Nat.le_refl _, g, rfl, f, fun i j a c h1 h2 h3 h4 => by
      rw [hg i j a c h1 h2 h3 h4]
      have : (i < k) ↔ (i < k ∨ (i = k ∧ j < k)) := by omega
      simp only [← this]⟩
    · rintro n t hn ⟨hkn, g, rfl, f, hg⟩
      obtain ⟨x1, x2, x3, x4, y1, y2, y3, y4, y5⟩ := twV_b hb (vh k) (vh n) (hA k) (hB k) (hA n) (hB n)
      have rk := hR k hk
      have rn := hR n hn
      rw [y2] at rk
      rw [y3] at rn
      have p : PF k n (A k) (A n) (B k) (B n) (x1 + x2) (x1 + x3) g := ⟨⟨by rw [(f.1 40 8 rfl).2.2]; exact lr.1, by rw [f.2]; exact lr.2⟩, ⟨by rw [(f.1 45 k rfl).1]; exact rk.1, by rw [(f.1 45 n rfl).1]; exact rn.1⟩, ⟨by rw [(f.1 46 k rfl).1]; exact rk.2.1, by rw [(f.1 46 n rfl).1]; exact rn.2.1⟩, by rw [(f.1 47 k rfl).1]; exact rk.2.2, by rw [(f.1 47 n rfl).1]; exact rn.2.2⟩
      show qW (f_X0_countPairs_b114 (nn (bc b.2)) (nn k) (nn n) g) _
      rw [k_pairStep hkn hn l8 p ⟨hA16 k, hA16 n, hB16 k, hB16 n⟩ (by rw [(f.1 40 7 rfl).1, h7]) (by rw [(f.1 22 15 rfl).2.1, e15]) (by rw [(f.1 7 k rfl).2.1]; exact hV k hk) (by rw [(f.1 7 n rfl).2.1]; exact hV n hn) y1 y4, qW_some]
      refine ⟨by omega, _, rfl, qfr_tr f (qfr_tr (qfr_tr (qfr_tr adI_fr adI_fr) adI_fr) adI_fr), fun i j a c h1 h2 h3 h4 => ?_⟩
      rw [adI_at, adI_at, adI_at, adI_at, hg i j a c h1 h2 h3 h4, Int32.add_assoc, Int32.add_assoc, Int32.add_assoc, Int32.add_assoc, nn_add, nn_add, nn_add, nn_add]
      congr 2
      have q1 := spI_eq (i := i) (j := j) (a := a) (b := c) (i2 := k) (j2 := n) (a2 := B k) (b2 := B n) h1 (by omega) h3 h4 hkn (by omega) (hB16 k) (hB16 n)
      have q2 := spI_eq (i := i) (j := j) (a := a) (b := c) (i2 := k) (j2 := n) (a2 := B k) (b2 := A n) h1 (by omega) h3 h4 hkn (by omega) (hB16 k) (hA16 n)
      have q3 := spI_eq (i := i) (j := j) (a := a) (b := c) (i2 := k) (j2 := n) (a2 := A k) (b2 := B n) h1 (by omega) h3 h4 hkn (by omega) (hA16 k) (hB16 n)
      have q4 := spI_eq (i := i) (j := j) (a := a) (b := c) (i2 := k) (j2 := n) (a2 := A k) (b2 := A n) h1 (by omega) h3 h4 hkn (by omega) (hA16 k) (hA16 n)
      simp only [q1, q2, q3, q4]
      by_cases d : i = k ∧ j = n
      · obtain ⟨rfl, rfl⟩ := d
        rw [if_neg (show ¬ (i < i ∨ (i = i ∧ j < j)) by omega), if_pos (show i < i ∨ (i = i ∧ j < j + 1) by omega), y5 a c]
        simp only [true_and, and_self]
        omega
      · simp only [d, false_and, if_false, Nat.add_zero]
        have : (i < k ∨ (i = k ∧ j < n)) ↔ (i < k ∨ (i = k ∧ j < n + 1)) := by omega
        simp only [this]
    · rintro t ⟨hkn, g, rfl, f, hg⟩
      show qW (f_X0_countPairs_b114 (nn (bc b.2)) (nn k) (nn (gH s)) g) _
      unfold f_X0_countPairs_b114 f_X0_countPairs_b313
      rw [(f.1 40 7 rfl).1, h7, if_pos ((nn_le (by omega) (by omega)).mpr (by omega)), qbd_e, nn_add1, qup_s, qW_some]
      refine ⟨g, rfl, f, fun i j a c h1 h2 h3 h4 => ?_⟩
      rw [hg i j a c h1 h2 h3 h4]
      have : (i < k ∨ (i = k ∧ j < gH s)) ↔ i < k + 1 := by omega
      simp only [this]
  · rintro t ⟨g, rfl, f, hg⟩
    show qW (f_X0_countPairs_b101 (nn (bc b.2)) (nn (gH s)) g) _
    unfold f_X0_countPairs_b101
    rw [(f.1 40 7 rfl).1, h7, if_pos ((nn_le (by omega) (by omega)).mpr (by omega)), qup_s, qW_some]
    refine ⟨f, fun i j a c h1 h2 h3 h4 => ?_⟩
    rw [hg i j a c h1 h2 h3 h4, if_pos (by omega)]
theorem k_countPairs {s : Sg} {L : Nat → Lw} {S : Nat} {h : qa_M} (w : WF s) (sp : SP s L h) {b : List Nat × Int64} (hb : b ∈ batC s L S) (e15 : h.2.1 22 15 = b.2) (hs : stk (h.1 31) b.1) (lr : LR h) (h7 : h.1 40 7 = nn (gH s)) (hV : ∀ i, i < gH s → h.2.1 7 i = vw s 0 i) :
    qW (m_X0_countPairs (nn (2 ^ gS s - 1)) h) (fun g => qfr [(45, 0), (46, 0), (47, 0), (167, 0)] h g ∧ ∀ i j a c, i ≤ j → j < gH s → a < 16 → c < 16 → g.1 167 (spI i j a c) = h.1 167 (spI i j a c) + nn (twV s (vw s 0 i) (vw s 0 j) (flC s b) a c)) := by
  have hn := w.n
  have l4 := w.s.2
  have l8 := w.h.2
  have ls := ls_lt w
  obtain ⟨h36, hl⟩ := bat_36 hb
  unfold m_X0_countPairs
  rw [e15, bc_spec, qbn_s, qbd_e, k_lastSort w sp, qbn_s, nn_sh1 (by omega), qbd_e, qbd_e]
  unfold f_X0_countPairs_b20_loop
  refine qW_for (gH s) (fun k t => ∃ g, t = (nn (2 ^ gS s - 1), nn (bc b.2), nn (2 ^ (if nT s = 0 then 0 else srt s (nT s - 1))), nn k, g) ∧ qfr [(45, 0), (46, 0), (47, 0)] h g ∧ ∀ i, i < k → g.1 45 i = nn (andn (2 ^ gS s - 1) (sOn s (vw s 0 i) b.1)) ∧ g.1 46 i = nn (andn (andn (2 ^ gS s - 1) (sOn s (vw s 0 i) b.1)) (2 ^ (if nT s = 0 then 0 else srt s (nT s - 1)))) ∧ g.1 47 i = nn (bc (b.2 &&& vw s 0 i))) ?_ ?_ (Nat.zero_le _) ⟨h, rfl, qfr_rf, fun i hi => by omega⟩
  · rintro k t hk ⟨g, rfl, f, hg⟩
    have spg := SP_fr sp f rfl (fun b j h1 h2 => by unfold inW; simp; omega)
    have hsg : stk (g.1 31) b.1 := stk_up hs (fun j _ => (f.1 31 j rfl).1)
    show qW (f_X0_countPairs_b20 (nn (2 ^ gS s - 1)) (nn (bc b.2)) (nn (2 ^ (if nT s = 0 then 0 else srt s (nT s - 1)))) (nn k) g) _
    unfold f_X0_countPairs_b20
    rw [(f.1 40 7 rfl).1, h7, if_neg (fun q => by rw [nn_le (by omega) (by omega)] at q; omega), qck_nn (by omega) (by omega), nn_cl (by omega), (f.1 7 k rfl).2.1, hV k hk, k_sortsOn w spg hsg h36 hl, qbn_s, nn_adn, qck_nn (by omega) (by omega), qbd_e, qck_nn (by omega) (by omega), qck_nn (by omega) (by omega), wI_at, nn_adn, qbd_e, qck_nn (by omega) (by omega), wI_J, wI_J, (f.1 7 k rfl).2.1, hV k hk, (f.1 22 15 rfl).2.1, e15, bc_spec, qbn_s, qck_nn (by omega) (by omega), qbd_e, qbd_e, nn_add1, qW_some]
    refine ⟨_, rfl, qfr_tr f (qfr_I0 rfl (by simp) (qfr_I0 (a := 46) rfl (by simp) (qfr_I0 (a := 45) rfl (by simp) qfr_rf))), fun i hi => ?_⟩
    by_cases c : i = k
    · subst c
      exact ⟨by rw [wI_ne (by omega), wI_ne (by omega), wI_at], by rw [wI_ne (by omega), wI_at], wI_at⟩
    · rw [wI_ne (by omega), wI_ne (by omega), wI_ne (by omega), wI_ne (by omega), wI_ne (by omega), wI_ne (by omega), wI_ne (by omega), wI_ne (by omega), wI_ne (by omega)]
      exact hg i (by omega)
  · rintro t ⟨g, rfl, f, hg⟩
    show qW (f_X0_countPairs_b20 (nn (2 ^ gS s - 1)) (nn (bc b.2)) (nn (2 ^ (if nT s = 0 then 0 else srt s (nT s - 1)))) (nn (gH s)) g) _
    unfold f_X0_countPairs_b20
    rw [(f.1 40 7 rfl).1, h7, if_pos ((nn_le (by omega) (by omega)).mpr (by omega)), qW_up]
    refine qW_mono (k_pairsOf w hb (by rw [(f.1 22 15 rfl).2.1]; exact e15) ⟨by rw [(f.1 40 8 rfl).2.2]; exact lr.1, by rw [f.2]; exact lr.2⟩ (by rw [(f.1 40 7 rfl).1]; exact h7) (fun i hi => by rw [(f.1 7 i rfl).2.1]; exact hV i hi) (A := fun i => andn (2 ^ gS s - 1) (sOn s (vw s 0 i) b.1)) (fun i => rfl) (fun i => rfl) hg) ?_
    rintro g2 ⟨f2, h2⟩
    refine ⟨qfr_tr (qfr_sub (qsub_c (by simp) (qsub_c (by simp) (qsub_c (by simp) qsub_nil))) f) (qfr_sub (qsub_c (by simp) qsub_nil) f2), fun i j a c h3 h4 h5 h6 => ?_⟩
    rw [h2 i j a c h3 h4 h5 h6, (f.1 167 _ rfl).1]
