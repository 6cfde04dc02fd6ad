/-! A LAND IS READ: both -/
theorem r_go40 {h : qa_M} {n p : Nat} (t1 : h.1 119 20 = nn n) (e : h.1 119 21 = nn p) (hn : n < 2147483648) (hp : p < 2147483648) : f_X12_goesOn_b40 h = some (bi (decide (h.1 119 22 = 0) && decide (p < n)), qw_I h 119 21 (nn (p + 1))) := by
  unfold f_X12_goesOn_b40 f_X12_goesOn_b62 f_X12_goesOn_b63
  rw [t1, e, nn_add1]
  by_cases c0 : h.1 119 22 = 0
  · rw [if_pos c0, decide_eq_true c0]
    by_cases c : n ≤ p
    · rw [if_pos ((nn_le hn hp).mpr c), qbd_e, qbd_e, qpr_t (by decide), decide_eq_false (by omega)]
      rfl
    · rw [if_neg (fun q => c ((nn_le hn hp).mp q)), qbd_e, qbd_e, qpr_t (by decide), decide_eq_true (by omega)]
      rfl
  · rw [if_neg c0, decide_eq_false c0, qbd_e, qbd_e, qpr_t (by decide)]
    rfl
theorem r_goesOn {B : Nat → Nat} {n p : Nat} {h : qa_M} (t : TpR B n h) (e : h.1 119 21 = nn p) (hp : p ≤ n) (f0 : h.1 119 22 = 0) :
    qW (m_X12_goesOn h) (fun z => if n ≤ sk B n p then z.1 = 0 ∧ z.2.1 119 22 = 0 else if B (sk B n p) = 59 then z.1 = 1 ∧ z.2.1 119 22 = 0 ∧ z.2.1 119 21 = nn (sk B n p + 1) else z.1 = 0 ∧ z.2.1 119 22 = nn (ER (sk B n p) 0)) := by
  have h4 := t.2.1
  have hsk := sk_le (B := B) hp
  unfold m_X12_goesOn
  rw [qW_bv]
  refine qW_fr (r_blanks t e hp) (fun z e => fr_X12_blanks _ e) ?_
  intro g e1 f1
  have f1 : qfr [(119, 22)] h g := f1
  have tg := TpR_fr t f1 rfl (fun j => rfl)
  have fg : g.1 119 22 = 0 := by rw [(f1.1 119 22 rfl).1]; exact f0
  rw [if_pos fg]
  by_cases c : n ≤ sk B n p
  · rw [tg.1, e1, if_pos ((nn_le (by omega) (by omega)).mpr c), r_go40 tg.1 e1 (by omega) (by omega), qW_some, if_pos c, decide_eq_false (show ¬ sk B n p < n by omega), Bool.and_false]
    exact ⟨rfl, by rw [wI_ne (by omega)]; exact fg⟩
  · rw [tg.1, e1, if_neg (fun q => c ((nn_le (by omega) (by omega)).mp q)), r_sign tg e1 (by omega), qbn_s]
    by_cases c2 : B (sk B n p) = 59
    · rw [if_pos (by exact (sgn_eq (c := 59) (fun q => (tg.2.2 _ q).1) (by omega)).mpr ⟨by omega, c2⟩), r_go40 tg.1 e1 (by omega) (by omega), qW_some, if_neg c, if_pos c2, decide_eq_true fg, decide_eq_true (show sk B n p < n by omega)]
      exact ⟨rfl, by rw [wI_ne (by omega)]; exact fg, wI_at⟩
    · rw [if_neg (fun q => by exact c2 ((sgn_eq (c := 59) (fun q => (tg.2.2 _ q).1) (by omega)).mp q).2), show (0 : Int32) = nn 0 from rfl, e1, r_fails fg, qbv_s]
      have hz : ¬ (qw_I g 119 22 (nn (ER (sk B n p) 0))).1 119 22 = 0 := by
        rw [wI_at, show (0 : Int32) = nn 0 from rfl, nn_eq (by unfold ER; omega) (by omega)]
        unfold ER
        omega
      rw [r_go40 (n := n) (p := sk B n p) (by rw [wI_ne (by omega)]; exact tg.1) (by rw [wI_ne (by omega)]; exact e1) (by omega) (by omega), qW_some, if_neg c, if_neg c2, decide_eq_false hz]
      exact ⟨rfl, by rw [wI_ne (by omega), wI_at]⟩
theorem r_goesOnF {B : Nat → Nat} {n f : Nat} {h : qa_M} (r : RG B n f h) (er : erB n f) : qW (m_X12_goesOn h) (fun z => z.1 = 0 ∧ z.2.1 119 22 = nn f) := by
  obtain ⟨t, ⟨p, hp, e⟩, e2⟩ := r
  have h4 := t.2.1
  have hsk := sk_le (B := B) hp
  have hf : ¬ nn f = 0 := by
    obtain ⟨h1, h2⟩ := er
    rw [show (0 : Int32) = nn 0 from rfl, nn_eq (by omega) (by omega)]
    omega
  unfold m_X12_goesOn
  rw [qW_bv]
  refine qW_fr (r_blanks t e hp) (fun z e => fr_X12_blanks _ e) ?_
  intro g e1 f1
  have f1 : qfr [(119, 22)] h g := f1
  have tg := TpR_fr t f1 rfl (fun j => rfl)
  have fg : g.1 119 22 = nn f := by rw [(f1.1 119 22 rfl).1]; exact e2
  rw [if_neg (by rw [fg]; exact hf), r_go40 tg.1 e1 (by omega) (by omega), qW_some, decide_eq_false (by rw [fg]; exact hf)]
  exact ⟨rfl, by rw [wI_ne (by omega)]; exact fg⟩
def wLd : List (Nat × Nat) := [(119, 22), (119, 23), (132, 0), (133, 0), (134, 0), (135, 0), (136, 0), (137, 0), (138, 0)]
theorem r_landLoop {B : Nat → Nat} {n : Nat} {h0 : qa_M} {P : Int32 × qa_M → Prop} : ∀ (fu cnt p : Nat) (s : Sg) (h : qa_M), cnt + fu = 25 → cnt ≤ 24 → DC s cnt → RT B n s p h → qfr wLd h0 h →
      (∀ g, qfr wLd h0 g → (match ldP B n fu s cnt p with
        | .inl f => g.1 119 22 = nn f
        | .inr t => g.1 119 22 = 0 ∧ sgN g = t) → qW (f_X12_land_b69 g) P) → qW (f_X12_land_b49_loop (nn cnt) 1 h) P
  | 0, cnt, p, s, h, h1, h2, _, _, _, _ => by omega
  | fu + 1, cnt, p, s, h, h1, h2, d, c, fr, hP => by
    have h400 := c.1.2.1
    have hp := c.2.2.2.2
    unfold f_X12_land_b49_loop
    refine qW_lpin ?_
    show qW (f_X12_land_b49 (nn cnt) 1 h) _
    unfold f_X12_land_b49
    rw [if_neg (by decide), qW_bv]
    refine qW_fr (r_landClause d h2 c) (fun z e => fr_X12_landClause _ _ e) ?_
    intro g hz f1
    have f1 : qfr wLd h g := f1
    rw [qbd_e, nn_add1, qW_bn]
    have fin : ∀ (g2 : qa_M), qfr wLd h0 g2 → (match ldP B n (fu + 1) s cnt p with
        | .inl f => g2.1 119 22 = nn f
        | .inr t => g2.1 119 22 = 0 ∧ sgN g2 = t) → qW (qlp (fun sz : Int32 × Int32 × qa_M => f_X12_land_b49 sz.1 sz.2.1 sz.2.2) (nn (cnt + 1), 0, g2)) P := by
      intro g2 f2 hm
      refine qW_lpin ?_
      show qW (f_X12_land_b49 (nn (cnt + 1)) 0 g2) _
      unfold f_X12_land_b49
      rw [if_pos rfl, qW_up]
      exact hP g2 f2 hm
    cases q : clP B n s cnt p with
    | inl f =>
      rw [q] at hz
      have e0 : ldP B n (fu + 1) s cnt p = .inl f := by simp only [ldP, pBd, q]
      rw [e0] at fin
      refine qW_fr (r_goesOnF hz (clP_er q hp)) (fun z e => fr_X12_goesOn _ e) ?_
      rintro ⟨x, g2⟩ ⟨z1, z2⟩ f2
      have z1 : x = 0 := z1
      subst z1
      have f2 : qfr [(119, 22), (119, 23)] g g2 := f2
      rw [qbd_e, qW_some]
      exact fin g2 (qfr_tr fr (qfr_tr f1 (qfr_sub (qsub_c (by simp [wLd]) (qsub_c (by simp [wLd]) qsub_nil)) f2))) z2
    | inr a =>
      obtain ⟨t, e⟩ := a
      rw [q] at hz
      have cg : RT B n t e g := hz
      obtain ⟨d2, hpe, he⟩ := clP_ok d hp q
      have hse := sk_le (B := B) he
      have e0 : ldP B n (fu + 1) s cnt p = if n ≤ sk B n e then .inr t else if B (sk B n e) = 59 then ldP B n fu t (cnt + 1) (sk B n e + 1) else .inl (ER (sk B n e) 0) := by simp only [ldP, pBd, q]
      rw [e0] at fin hP
      refine qW_fr (r_goesOn cg.1 cg.2.1 he cg.2.2.1) (fun z e => fr_X12_goesOn _ e) ?_
      rintro ⟨x, g2⟩ hg2 f2
      have f2 : qfr [(119, 22), (119, 23)] g g2 := f2
      have f2' : qfr wLd g g2 := qfr_sub (qsub_c (by simp [wLd]) (qsub_c (by simp [wLd]) qsub_nil)) f2
      have sG : sgN g2 = t := by rw [sgN_fr f2 (fun b j h1 h2 => by unfold inW; simp; omega)]; exact cg.2.2.2.1
      rw [qbd_e, qW_some]
      by_cases c1 : n ≤ sk B n e
      · rw [if_pos c1] at hg2 fin
        obtain ⟨z1, z2⟩ := hg2
        have z1 : x = 0 := z1
        subst z1
        exact fin g2 (qfr_tr fr (qfr_tr f1 f2')) ⟨z2, sG⟩
      · rw [if_neg c1] at hg2 fin hP
        by_cases c2 : B (sk B n e) = 59
        · rw [if_pos c2] at hg2 hP
          obtain ⟨z1, z2, z3⟩ := hg2
          have z1 : x = 1 := z1
          subst z1
          have hcn : cnt ≠ 24 := fun q2 => by rw [q2] at q; exact clP_24 q
          exact r_landLoop fu (cnt + 1) (sk B n e + 1) t g2 (by omega) (by omega) d2 ⟨TpR_fr cg.1 f2 rfl (fun j => rfl), z3, z2, sG, by omega⟩ (qfr_tr fr (qfr_tr f1 f2')) hP
        · rw [if_neg c2] at hg2 fin
          obtain ⟨z1, z2⟩ := hg2
          have z1 : x = 0 := z1
          subst z1
          exact fin g2 (qfr_tr fr (qfr_tr f1 f2')) z2
/-- one row laid into another -/
theorem r_lay {a0 a1 n0 n1 : Nat} {h : qa_M} (e0 : ∀ g, (qO g)[a0]? = some (.inr (0, n0))) (e1 : ∀ g, (qO g)[a1]? = some (.inr (0, n1))) (hn : n0 ≤ n1) (h1 : n1 < 2147483648) (ha : a0 ≠ a1) : qW (m_X12_lay a0 a1 h) (fun g => ∀ j, (j < n0 → g.1 a1 j = h.1 a0 j) ∧ (n0 ≤ j → g.1 a1 j = h.1 a1 j)) := by
  unfold m_X12_lay f_X12_lay_b2_loop
  rw [qbd_e]
  refine qW_for n0 (fun k z => ∃ g, z = (nn k, g) ∧ qfr [(a1, 0)] h g ∧ ∀ j, (j < k → g.1 a1 j = h.1 a0 j) ∧ (k ≤ j → g.1 a1 j = h.1 a1 j)) ?_ ?_ (Nat.zero_le _) ⟨h, rfl, qfr_rf, fun j => ⟨fun q => by omega, fun _ => rfl⟩⟩
  · rintro k z hk ⟨g, rfl, f, hj⟩
    show qW (f_X12_lay_b2 a0 a1 (nn k) g) _
    unfold f_X12_lay_b2
    rw [qal_s (e0 g), nn_ofN, if_neg (fun q => by rw [nn_le (by omega) (by omega)] at q; omega), qal_s (e0 g), qck_nn (by omega) (by omega), qal_s (e1 g), qck_nn (by omega) (by omega), qbd_e, qbd_e, nn_add1, qW_some, nn_cl (by omega)]
    refine ⟨_, rfl, qfr_tr f (qfr_I0 rfl (by simp) qfr_rf), fun j => ?_⟩
    have ga : g.1 a0 k = h.1 a0 k := (f.1 a0 k (by unfold inW; simp; intro q; exact absurd q.symm ha)).1
    by_cases c : j = k
    · subst c
      rw [wI_at]
      exact ⟨fun _ => ga, fun q => by omega⟩
    · rw [wI_ne (by omega)]
      exact ⟨fun q => (hj j).1 (by omega), fun q => (hj j).2 (by omega)⟩
  · rintro z ⟨g, rfl, f, hj⟩
    show qW (f_X12_lay_b2 a0 a1 (nn n0) g) _
    unfold f_X12_lay_b2
    rw [qal_s (e0 g), nn_ofN, if_pos ((nn_le (by omega) (by omega)).mpr (by omega)), qup_s, qW_some]
    exact hj
def MR (t : Sg) (h g : qa_M) : Prop := (∀ j, j < 5 → g.1 120 j = t 0 j) ∧ g.1 120 5 = 0 ∧ (∀ j, 6 ≤ j → g.1 120 j = h.1 120 j) ∧ (∀ j, j < 36 → g.1 121 j = t 1 j) ∧ (∀ j, j < 8 → g.1 122 j = t 2 j ∧ g.1 123 j = t 3 j) ∧ (∀ j, j < 6 → g.1 124 j = t 4 j ∧ g.1 125 j = t 5 j) ∧ (∀ j, j < 4 → g.1 126 j = t 6 j) ∧ (∀ j, 36 ≤ j → g.1 121 j = h.1 121 j) ∧ (∀ j, 8 ≤ j → g.1 122 j = h.1 122 j ∧ g.1 123 j = h.1 123 j) ∧ (∀ j, 6 ≤ j → g.1 124 j = h.1 124 j ∧ g.1 125 j = h.1 125 j) ∧ ∀ j, 4 ≤ j → g.1 126 j = h.1 126 j
theorem r_land69 {t : Sg} {h : qa_M} (f0 : h.1 119 22 = 0) (st : sgN h = t) : qW (f_X12_land_b69 h) (fun z => z.1 = t 0 2 ∧ z.2.1 119 20 = 0 ∧ MR t h z.2) := by
  unfold f_X12_land_b69
  rw [qbd_e, wI_ne (by omega), f0, if_pos (by decide)]
  obtain ⟨g, hg⟩ : ∃ g, g = qw_I h 119 20 0 := ⟨_, rfl⟩
  rw [← hg]
  have g0 : ∀ b j, b ≠ 119 → g.1 b j = h.1 b j := fun b j hb => by rw [hg, wI_ne (by omega)]
  have s0 : ∀ j, j < 5 → h.1 132 j = t 0 j := fun j hj => by rw [sgN_0 hj, st]
  have si : ∀ i j, 0 < i → i < 7 → h.1 (132 + i) j = t i j := fun i j h0 h7 => by rw [sgN_i h0 h7, st]
  rw [qW_bv]
  refine qW_fr (r_lay (h := g) (a0 := 132) (a1 := 120) (fun g => wl_132 g) (fun g => wl_120 g) (by omega) (by omega) (by omega)) (fun z e => fr_X12_lay _ _ _ e) ?_
  intro g1 z1 f1
  have f1 : qfr [(120, 0)] g g1 := f1
  rw [qW_bv]
  refine qW_fr (r_lay (h := g1) (a0 := 133) (a1 := 121) (fun g => wl_133 g) (fun g => wl_121 g) (by omega) (by omega) (by omega)) (fun z e => fr_X12_lay _ _ _ e) ?_
  intro g2 z2 f2
  have f2 : qfr [(121, 0)] g1 g2 := f2
  rw [qW_bv]
  refine qW_fr (r_lay (h := g2) (a0 := 134) (a1 := 122) (fun g => wl_134 g) (fun g => wl_122 g) (by omega) (by omega) (by omega)) (fun z e => fr_X12_lay _ _ _ e) ?_
  intro g3 z3 f3
  have f3 : qfr [(122, 0)] g2 g3 := f3
  rw [qW_bv]
  refine qW_fr (r_lay (h := g3) (a0 := 135) (a1 := 123) (fun g => wl_135 g) (fun g => wl_123 g) (by omega) (by omega) (by omega)) (fun z e => fr_X12_lay _ _ _ e) ?_
  intro g4 z4 f4
  have f4 : qfr [(123, 0)] g3 g4 := f4
  rw [qW_bv]
  refine qW_fr (r_lay (h := g4) (a0 := 136) (a1 := 124) (fun g => wl_136 g) (fun g => wl_124 g) (by omega) (by omega) (by omega)) (fun z e => fr_X12_lay _ _ _ e) ?_
  intro g5 z5 f5
  have f5 : qfr [(124, 0)] g4 g5 := f5
  rw [qW_bv]
  refine qW_fr (r_lay (h := g5) (a0 := 137) (a1 := 125) (fun g => wl_137 g) (fun g => wl_125 g) (by omega) (by omega) (by omega)) (fun z e => fr_X12_lay _ _ _ e) ?_
  intro g6 z6 f6
  have f6 : qfr [(125, 0)] g5 g6 := f6
  rw [qW_bv]
  refine qW_fr (r_lay (h := g6) (a0 := 138) (a1 := 126) (fun g => wl_138 g) (fun g => wl_126 g) (by omega) (by omega) (by omega)) (fun z e => fr_X12_lay _ _ _ e) ?_
  intro g7 z7 f7
  have f7 : qfr [(126, 0)] g6 g7 := f7
  rw [qck_ok (i := 5) (by decide), qbd_e, qck_ok (i := 2) (by decide), qW_some]
  have c20 : ∀ j, g7.1 120 j = g1.1 120 j := fun j => by rw [(f7.1 120 j rfl).1, (f6.1 120 j rfl).1, (f5.1 120 j rfl).1, (f4.1 120 j rfl).1, (f3.1 120 j rfl).1, (f2.1 120 j rfl).1]
  have c21 : ∀ j, g7.1 121 j = g2.1 121 j := fun j => by rw [(f7.1 121 j rfl).1, (f6.1 121 j rfl).1, (f5.1 121 j rfl).1, (f4.1 121 j rfl).1, (f3.1 121 j rfl).1]
  have c22 : ∀ j, g7.1 122 j = g3.1 122 j := fun j => by rw [(f7.1 122 j rfl).1, (f6.1 122 j rfl).1, (f5.1 122 j rfl).1, (f4.1 122 j rfl).1]
  have c23 : ∀ j, g7.1 123 j = g4.1 123 j := fun j => by rw [(f7.1 123 j rfl).1, (f6.1 123 j rfl).1, (f5.1 123 j rfl).1]
  have c24 : ∀ j, g7.1 124 j = g5.1 124 j := fun j => by rw [(f7.1 124 j rfl).1, (f6.1 124 j rfl).1]
  have c25 : ∀ j, g7.1 125 j = g6.1 125 j := fun j => by rw [(f7.1 125 j rfl).1]
  refine ⟨?_, ?_, fun j hj => ?_, ?_, fun j hj => ?_, fun j hj => ?_, fun j hj => ⟨?_, ?_⟩, fun j hj => ⟨?_, ?_⟩, fun j hj => ?_, fun j hj => ?_, fun j hj => ⟨?_, ?_⟩, fun j hj => ⟨?_, ?_⟩, fun j hj => ?_⟩
  · show (qw_I g7 120 5 0).1 120 2 = _
    rw [wI_ne (by omega), c20, (z1 2).1 (by omega), g0 _ _ (by omega), s0 2 (by omega)]
  · show (qw_I g7 120 5 0).1 119 20 = _
    rw [wI_ne (by omega), (f7.1 119 20 rfl).1, (f6.1 119 20 rfl).1, (f5.1 119 20 rfl).1, (f4.1 119 20 rfl).1, (f3.1 119 20 rfl).1, (f2.1 119 20 rfl).1, (f1.1 119 20 rfl).1, hg, wI_at]
  · show (qw_I g7 120 5 0).1 120 j = _
    rw [wI_ne (by omega), c20, (z1 j).1 hj, g0 _ _ (by omega), s0 j hj]
  · show (qw_I g7 120 5 0).1 120 5 = _
    rw [wI_at]
  · show (qw_I g7 120 5 0).1 120 j = _
    rw [wI_ne (by omega), c20, (z1 j).2 (by omega), g0 _ _ (by omega)]
  · show (qw_I g7 120 5 0).1 121 j = _
    rw [wI_ne (by omega), c21, (z2 j).1 hj, (f1.1 133 j rfl).1, g0 _ _ (by omega), si 1 j (by omega) (by omega)]
  · show (qw_I g7 120 5 0).1 122 j = _
    rw [wI_ne (by omega), c22, (z3 j).1 hj, (f2.1 134 j rfl).1, (f1.1 134 j rfl).1, g0 _ _ (by omega), si 2 j (by omega) (by omega)]
  · show (qw_I g7 120 5 0).1 123 j = _
    rw [wI_ne (by omega), c23, (z4 j).1 hj, (f3.1 135 j rfl).1, (f2.1 135 j rfl).1, (f1.1 135 j rfl).1, g0 _ _ (by omega), si 3 j (by omega) (by omega)]
  · show (qw_I g7 120 5 0).1 124 j = _
    rw [wI_ne (by omega), c24, (z5 j).1 hj, (f4.1 136 j rfl).1, (f3.1 136 j rfl).1, (f2.1 136 j rfl).1, (f1.1 136 j rfl).1, g0 _ _ (by omega), si 4 j (by omega) (by omega)]
  · show (qw_I g7 120 5 0).1 125 j = _
    rw [wI_ne (by omega), c25, (z6 j).1 hj, (f5.1 137 j rfl).1, (f4.1 137 j rfl).1, (f3.1 137 j rfl).1, (f2.1 137 j rfl).1, (f1.1 137 j rfl).1, g0 _ _ (by omega), si 5 j (by omega) (by omega)]
  · show (qw_I g7 120 5 0).1 126 j = _
    rw [wI_ne (by omega), (z7 j).1 hj, (f6.1 138 j rfl).1, (f5.1 138 j rfl).1, (f4.1 138 j rfl).1, (f3.1 138 j rfl).1, (f2.1 138 j rfl).1, (f1.1 138 j rfl).1, g0 _ _ (by omega), si 6 j (by omega) (by omega)]
  · show (qw_I g7 120 5 0).1 121 j = _
    rw [wI_ne (by omega), c21, (z2 j).2 hj, (f1.1 121 j rfl).1, g0 _ _ (by omega)]
  · show (qw_I g7 120 5 0).1 122 j = _
    rw [wI_ne (by omega), c22, (z3 j).2 hj, (f2.1 122 j rfl).1, (f1.1 122 j rfl).1, g0 _ _ (by omega)]
  · show (qw_I g7 120 5 0).1 123 j = _
    rw [wI_ne (by omega), c23, (z4 j).2 hj, (f3.1 123 j rfl).1, (f2.1 123 j rfl).1, (f1.1 123 j rfl).1, g0 _ _ (by omega)]
  · show (qw_I g7 120 5 0).1 124 j = _
    rw [wI_ne (by omega), c24, (z5 j).2 hj, (f4.1 124 j rfl).1, (f3.1 124 j rfl).1, (f2.1 124 j rfl).1, (f1.1 124 j rfl).1, g0 _ _ (by omega)]
  · show (qw_I g7 120 5 0).1 125 j = _
    rw [wI_ne (by omega), c25, (z6 j).2 hj, (f5.1 125 j rfl).1, (f4.1 125 j rfl).1, (f3.1 125 j rfl).1, (f2.1 125 j rfl).1, (f1.1 125 j rfl).1, g0 _ _ (by omega)]
  · show (qw_I g7 120 5 0).1 126 j = _
    rw [wI_ne (by omega), (z7 j).2 hj, (f6.1 126 j rfl).1, (f5.1 126 j rfl).1, (f4.1 126 j rfl).1, (f3.1 126 j rfl).1, (f2.1 126 j rfl).1, (f1.1 126 j rfl).1, g0 _ _ (by omega)]
/-- the reference reads a land -/
def z0S (h : qa_M) : Sg := fun i j => if i = 0 ∨ (i = 1 ∧ j < 36) then 0 else sgN h i j
theorem z0S_0 {h : qa_M} : Z0 (z0S h) := ⟨fun j => if_pos (.inl rfl), fun j hj => if_pos (.inr ⟨rfl, hj⟩)⟩
theorem r_readLand {B : Nat → Nat} {n : Nat} {h : qa_M} (t : TpR B n h) : qW (m_X12_land h) (fun z => match ldP B n 25 (z0S h) 0 0 with
      | .inl f => z.1 = -2 - nn f ∧ z.2.1 119 20 = 0 ∧ sg z.2 = sg h
      | .inr t => z.1 = t 0 2 ∧ z.2.1 119 20 = 0 ∧ MR t h z.2) := by
  have h400 := t.2.1
  unfold m_X12_land m_X12_starts
  simp only [qbd_e, qbv_s]
  obtain ⟨g, hg⟩ : ∃ g, g = qw_I (qw_I (qw_I (qw_I (qw_I h 119 21 0) 119 22 0) 119 25 0) 119 26 0) 119 27 0 := ⟨_, rfl⟩
  rw [← hg]
  have f : qfr [(119, 22), (119, 23), (119, 26), (119, 27), (119, 28)] h g := by
    rw [hg]
    exact qfr_Ik rfl (by simp) (qfr_Ik rfl (by simp) (qfr_Ik rfl (by simp) (qfr_Ik rfl (by simp) (qfr_Ik rfl (by simp) qfr_rf))))
  have tg := TpR_fr t f rfl (fun j => rfl)
  have g21 : g.1 119 21 = 0 := by rw [hg, wI_ne (by omega), wI_ne (by omega), wI_ne (by omega), wI_ne (by omega), wI_at]
  have g22 : g.1 119 22 = 0 := by rw [hg, wI_ne (by omega), wI_ne (by omega), wI_ne (by omega), wI_at]
  unfold f_X12_land_b6_loop
  refine qW_for 5 (fun k z => ∃ G, z = (nn k, G) ∧ qfr [(132, 0)] g G ∧ ∀ j, j < k → G.1 132 j = 0) ?_ ?_ (Nat.zero_le _) ⟨g, rfl, qfr_rf, fun j hj => by omega⟩
  · rintro k z hk ⟨G, rfl, fG, z0⟩
    show qW (f_X12_land_b6 (nn k) G) _
    unfold f_X12_land_b6
    rw [if_neg (fun q => by rw [show (5 : Int32) = nn 5 from rfl, nn_le (by omega) (by omega)] at q; omega), qck_nn (by omega) (by omega), qbd_e, qbd_e, nn_add1, qW_some, nn_cl (by omega)]
    refine ⟨_, rfl, qfr_tr fG (qfr_I0 rfl (by simp) qfr_rf), fun j hj => ?_⟩
    by_cases c : j = k
    · subst c; rw [wI_at]
    · rw [wI_ne (by omega)]; exact z0 j (by omega)
  · rintro z ⟨G, rfl, fG, z0⟩
    show qW (f_X12_land_b6 (nn 5) G) _
    unfold f_X12_land_b6 f_X12_land_b24 f_X12_land_b26_loop
    rw [if_pos (by decide), qW_up, qbd_e]
    refine qW_for 36 (fun k z => ∃ G2, z = (nn k, G2) ∧ qfr [(133, 0)] G G2 ∧ ∀ j, (j < k → G2.1 133 j = 0) ∧ (k ≤ j → G2.1 133 j = G.1 133 j)) ?_ ?_ (Nat.zero_le _) ⟨G, rfl, qfr_rf, fun j => ⟨fun hj => by omega, fun _ => rfl⟩⟩
    · rintro k z hk ⟨G2, rfl, fG2, z2⟩
      show qW (f_X12_land_b26 (nn k) G2) _
      unfold f_X12_land_b26
      rw [if_neg (fun q => by rw [show (36 : Int32) = nn 36 from rfl, nn_le (by omega) (by omega)] at q; omega), qck_nn (by omega) (by omega), qbd_e, qbd_e, nn_add1, qW_some, nn_cl (by omega)]
      refine ⟨_, rfl, qfr_tr fG2 (qfr_I0 rfl (by simp) qfr_rf), fun j => ?_⟩
      by_cases c : j = k
      · subst c; rw [wI_at]; exact ⟨fun _ => rfl, fun q => by omega⟩
      · rw [wI_ne (by omega)]; exact ⟨fun q => (z2 j).1 (by omega), fun q => (z2 j).2 (by omega)⟩
    · rintro z ⟨G2, rfl, fG2, z2⟩
      show qW (f_X12_land_b26 (nn 36) G2) _
      unfold f_X12_land_b26 f_X12_land_b45
      rw [if_pos (by decide), qW_up, qbd_e, qbd_e]
      have e0 : ∀ j, G2.1 132 j = G.1 132 j := fun j => (fG2.1 132 j rfl).1
      have ei : ∀ b j, 134 ≤ b → G2.1 b j = h.1 b j := fun b j hb => by rw [(fG2.1 b j (by unfold inW; simp; omega)).1, (fG.1 b j (by unfold inW; simp; omega)).1, (f.1 b j (by unfold inW; simp; omega)).1]
      have e1 : ∀ j, 36 ≤ j → G2.1 133 j = h.1 133 j := fun j hj => by rw [(z2 j).2 hj, (fG.1 133 j rfl).1, (f.1 133 j rfl).1]
      have sG : sgN G2 = z0S h := by
        funext i j
        unfold z0S
        by_cases c : i = 0 ∨ (i = 1 ∧ j < 36)
        · rw [if_pos c]
          rcases c with rfl | ⟨rfl, hj⟩
          · show (if 0 < 7 ∧ (0 = 0 → j < 5) then G2.1 132 j else 0) = 0
            by_cases c5 : j < 5
            · rw [if_pos ⟨by omega, fun _ => c5⟩, e0, z0 j c5]
            · rw [if_neg (fun q => c5 (q.2 rfl))]
          · rw [← sgN_i (by omega) (by omega)]
            exact (z2 j).1 hj
        · rw [if_neg c]
          show (if i < 7 ∧ (i = 0 → j < 5) then G2.1 (132 + i) j else 0) = (if i < 7 ∧ (i = 0 → j < 5) then h.1 (132 + i) j else 0)
          by_cases c7 : i < 7 ∧ (i = 0 → j < 5)
          · rw [if_pos c7, if_pos c7]
            by_cases c1 : i = 1
            · subst c1
              exact e1 j (by omega)
            · exact ei _ j (by omega)
          · rw [if_neg c7, if_neg c7]
      have f22 : G2.1 119 22 = 0 := by rw [(fG2.1 119 22 rfl).1, (fG.1 119 22 rfl).1, g22]
      refine r_landLoop (h0 := G2) 25 0 0 (z0S h) G2 (by omega) (by omega) ⟨DF_0 z0S_0, fun _ => z0S_0, fun q => by omega⟩ ⟨TpR_fr (TpR_fr tg fG rfl (fun j => rfl)) fG2 rfl (fun j => rfl), by rw [(fG2.1 119 21 rfl).1, (fG.1 119 21 rfl).1, g21]; rfl, f22, sG, by omega⟩ qfr_rf ?_
      intro g9 f9 hm
      have k120 : ∀ b j, 120 ≤ b → b ≤ 131 → g9.1 b j = h.1 b j := fun b j h1 h2 => by rw [(f9.1 b j (by unfold wLd inW; simp; omega)).1, (fG2.1 b j (by unfold inW; simp; omega)).1, (fG.1 b j (by unfold inW; simp; omega)).1, (f.1 b j (by unfold inW; simp; omega)).1]
      cases q : ldP B n 25 (z0S h) 0 0 with
      | inl k =>
        rw [q] at hm
        have er := ldP_er q ⟨DF_0 z0S_0, fun _ => z0S_0, fun q => by omega⟩ (by omega)
        obtain ⟨er1, er2⟩ := er
        unfold f_X12_land_b69
        rw [qbd_e, wI_ne (by omega), hm, if_neg (fun q => by rw [show (0 : Int32) = nn 0 from rfl, nn_le (by omega) (by omega)] at q; omega), qW_some]
        refine ⟨rfl, wI_at, ?_⟩
        funext i j
        show sg (qw_I g9 119 20 0) i j = _
        have kk : ∀ b j, 120 ≤ b → b ≤ 131 → (qw_I g9 119 20 0).1 b j = h.1 b j := fun b j h1 h2 => by rw [wI_ne (by omega)]; exact k120 b j h1 h2
        unfold sg
        split <;> first | rfl | exact kk _ _ (by omega) (by omega)
      | inr t =>
        rw [q] at hm
        refine qW_mono (r_land69 hm.1 hm.2) ?_
        rintro ⟨x, G⟩ ⟨w1, w2, w3, w4, w5, w6, w7, w8, w9, v1, v2, v3, v4⟩
        exact ⟨w1, w2, w3, w4, fun j hj => (w5 j hj).trans (k120 120 j (by omega) (by omega)), w6, w7, w8, w9, fun j hj => (v1 j hj).trans (k120 121 j (by omega) (by omega)), fun j hj => ⟨(v2 j hj).1.trans (k120 122 j (by omega) (by omega)), (v2 j hj).2.trans (k120 123 j (by omega) (by omega))⟩, fun j hj => ⟨(v3 j hj).1.trans (k120 124 j (by omega) (by omega)), (v3 j hj).2.trans (k120 125 j (by omega) (by omega))⟩, fun j hj => (v4 j hj).trans (k120 126 j (by omega) (by omega))⟩
/-! the class copies a land -/
theorem k_copyL {a0 a1 : Nat} {s : Sg} {h : qa_M} (w : WF s) (r : RelL a1 s h) (hap : a0 + 6 ≤ a1 ∨ a1 + 6 ≤ a0) : qW (m_X3_copy a0 a1 h) (RelL a0 s) := by
  obtain ⟨⟨r0, r1, r2, r3, r4, r5⟩, ⟨r6, r7⟩, ra, rb, rc⟩ := r
  have l8 := w.h.2
  have l6 := w.o.2
  have l4 := w.s.2
  unfold m_X3_copy
  simp only [qbd_e]
  rw [qW_some]
  have E1 : ∀ (g : qa_M) (a b n c j : Nat), (qw_cI g a 0 b 0 n).1 c j = if c = b ∧ j < n then g.1 a j else g.1 c j := by
    intro g a b n c j
    show (if c = b ∧ 0 ≤ j ∧ j < 0 + n then g.1 a (0 + (j - 0)) else g.1 c j) = _
    by_cases q : c = b ∧ j < n
    · rw [if_pos q, if_pos ⟨q.1, by omega, by omega⟩, Nat.sub_zero, Nat.zero_add]
    · rw [if_neg q, if_neg (fun x => q ⟨x.1, by omega⟩)]
  have E2 : ∀ (g : qa_M) (a b n c j : Nat), (qw_cJ g a 0 b 0 n).2.1 c j = if c = b ∧ j < n then g.2.1 a j else g.2.1 c j := by
    intro g a b n c j
    show (if c = b ∧ 0 ≤ j ∧ j < 0 + n then g.2.1 a (0 + (j - 0)) else g.2.1 c j) = _
    by_cases q : c = b ∧ j < n
    · rw [if_pos q, if_pos ⟨q.1, by omega, by omega⟩, Nat.sub_zero, Nat.zero_add]
    · rw [if_neg q, if_neg (fun x => q ⟨x.1, by omega⟩)]
  have E3 : ∀ (g : qa_M) (a b n : Nat), (qw_cJ g a 0 b 0 n).1 = g.1 := fun g a b n => rfl
  have E4 : ∀ (g : qa_M) (a b n : Nat), (qw_cI g a 0 b 0 n).2.1 = g.2.1 := fun g a b n => rfl
  have W1 : ∀ (g : qa_M) (a k b j : Nat) (v : Int32), (qw_I g a k v).1 b j = if b = a ∧ j = k then v else g.1 b j := fun g a k b j v => rfl
  have W2 : ∀ (g : qa_M) (a k b j : Nat) (v : Int64), (qw_J g a k v).2.1 b j = if b = a ∧ j = k then v else g.2.1 b j := fun g a k b j v => rfl
  have W3 : ∀ (g : qa_M) (a k : Nat) (v : Int32), (qw_I g a k v).2.1 = g.2.1 := fun g a k v => rfl
  have W4 : ∀ (g : qa_M) (a k : Nat) (v : Int64), (qw_J g a k v).1 = g.1 := fun g a k v => rfl
  have n1 : ∀ i j : Nat, i ≤ 5 → j ≤ 5 → ¬ (a1 + i = a0 + j) := fun i j h1 h2 => by omega
  refine ⟨⟨?_, ?_, ?_, ?_, ?_, ?_⟩, ⟨?_, ?_⟩, fun i hi => ⟨?_, ?_, ?_⟩, fun i hi => ?_, fun i hi => ?_⟩
  all_goals simp only [E1, E2, E3, E4, W1, W2, W3, W4]
  all_goals (repeat (first | rw [if_neg (by omega)] | rw [if_pos (by omega)] | rw [if_pos (by exact ⟨trivial, trivial⟩)] | rw [if_pos (by exact ⟨trivial, by omega⟩)] | rw [if_neg (fun q => absurd q.2 (by omega))]))
  · exact r0
  · exact r1
  · exact r2
  · exact r3
  · exact r4
  · exact r5
  · exact r6
  · exact r7
  · exact (ra i hi).1
  · exact (ra i hi).2.1
  · exact (ra i hi).2.2
  · exact rb i hi
  · exact rc i hi
/-- the class's land -/
theorem k_land {B : Nat → Nat} {n : Nat} {h : qa_M} {s : Sg} (z0 : Z0 s) (t : TpC B n h) : qW (m_X11_land h) (fun z => match ldP B n 25 s 0 0 with
      | .inl f => z.1 = -2 - nn f ∧ z.2.1 1 1 = 0 ∧ qfr ((1, 2) :: w_X4_read) h z.2
      | .inr t => z.1 = t 0 2 ∧ z.2.1 1 1 = 0 ∧ RelL 4 t z.2 ∧ z.2.1 3 1 = 0 ∧ z.2.1 0 13 = h.1 0 13 + 1) := by
  have h400 := t.2.1
  unfold m_X11_land
  rw [qW_bn]
  refine qW_fr (k_readLand z0 t) (fun z e => fr_X4_read _ e) ?_
  rintro ⟨x, g⟩ hz f1
  have f1 : qfr w_X4_read h g := f1
  rw [qbd_e, qbd_e]
  have f2 : qfr ((1, 2) :: w_X4_read) h (qw_I g 1 1 0) := qfr_Ik rfl (by simp) (qfr_sub (fun b j e => by rw [inW_cons, e]; simp) f1)
  cases q : ldP B n 25 s 0 0 with
  | inl k =>
    rw [q] at hz
    have hz : x = nn k := hz
    obtain ⟨er1, er2⟩ := ldP_er q ⟨DF_0 z0, fun _ => z0, fun q => by omega⟩ (by omega)
    subst hz
    rw [if_neg (fun q => by rw [show (0 : Int32) = nn 0 from rfl, nn_eq (by omega) (by omega)] at q; omega), qW_some]
    exact ⟨rfl, wI_at, f2⟩
  | inr u =>
    rw [q] at hz
    obtain ⟨z1, z2⟩ := hz
    have z1 : x = 0 := z1
    subst z1
    have z2 : RelL 14 u g := z2
    obtain ⟨d, -, -⟩ := ldP_ok q ⟨DF_0 z0, fun _ => z0, fun q => by omega⟩ (by omega)
    rw [if_pos rfl, qW_bv]
    have rl : RelL 14 u (qw_I g 1 1 0) := RelL_wI z2 (by omega)
    refine qW_fr (k_copyL d.1 rl (a0 := 4) (by omega)) (fun z e => fr_X3_copy _ _ _ e) ?_
    intro g2 r2 f3
    have f3 : qfr (w_X3_copy 4) (qw_I g 1 1 0) g2 := f3
    rw [qbd_e, qbd_e, qW_some]
    refine ⟨?_, ?_, ?_, ?_, ?_⟩
    · show (qw_I (qw_I g2 3 1 0) 0 13 ((qw_I g2 3 1 0).1 0 13 + 1)).1 4 2 = _
      rw [wI_ne (by omega), wI_ne (by omega)]
      exact r2.1.2.2.1
    · show (qw_I (qw_I g2 3 1 0) 0 13 ((qw_I g2 3 1 0).1 0 13 + 1)).1 1 1 = _
      rw [wI_ne (by omega), wI_ne (by omega), (f3.1 1 1 rfl).1, wI_at]
    · exact RelL_wI (RelL_wI r2 (by omega)) (by omega)
    · show (qw_I (qw_I g2 3 1 0) 0 13 ((qw_I g2 3 1 0).1 0 13 + 1)).1 3 1 = _
      rw [wI_ne (by omega), wI_at]
    · show (qw_I (qw_I g2 3 1 0) 0 13 ((qw_I g2 3 1 0).1 0 13 + 1)).1 0 13 = _
      rw [wI_at, wI_ne (by omega), (f3.1 0 13 rfl).1, wI_ne (by omega), (f1.1 0 13 rfl).1]
