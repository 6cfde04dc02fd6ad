/-! WALKS: THE REFERENCE'S TOURS -/
def TabR (T : Nat → Nat → Option Nat) (h : qa_M) : Prop := ∀ k a, k < 256 → a < 8 → h.1 164 (8 * k + a) = oN (nn 99999) (T k a)
theorem TabR_up {T : Nat → Nat → Option Nat} {h : qa_M} (t : TabR T h) {k a : Nat} {v : Option Nat} (hk : k < 256) (ha : a < 8) : TabR (upT T k a v) (qw_I h 164 (8 * k + a) (oN (nn 99999) v)) := by
  intro k2 a2 hk2 ha2
  unfold upT
  by_cases c : k2 = k ∧ a2 = a
  · rw [if_pos c, c.1, c.2, wI_at]
  · rw [if_neg c, wI_ne (by omega)]
    exact t k2 a2 hk2 ha2
theorem best_up {T : Nat → Nat → Option Nat} {W k a : Nat} {v : Option Nat} (ha : a < 8) : mnK (upT T k a (omn (T k a) v) W) 8 = if k = W then omn (mnK (T W) 8) v else mnK (T W) 8 := by
  by_cases c : k = W
  · subst c
    rw [if_pos rfl]
    have := mnK_up (F := T k) (a := a) (v := v) (n := 8)
    rw [if_pos ha] at this
    rw [← this]
    refine mnK_congr (fun b hb => ?_)
    unfold upT
    by_cases c2 : b = a
    · rw [if_pos ⟨rfl, c2⟩, if_pos c2]
    · rw [if_neg (fun q => c2 q.2), if_neg c2]
  · rw [if_neg c]
    refine mnK_congr (fun b hb => ?_)
    unfold upT
    rw [if_neg (fun q => c q.1.symm)]
theorem r_317 {h : qa_M} {W m f j K v : Nat} {T : Nat → Nat → Option Nat} {d : Option Nat} (hv : v < 1000000) (b : bdT T) (hW : W < 256) (hK : K < 256) (hj : j < 8) (h2 : ∀ a, d = some a → v + a < 99999) (s2 : Int32) :
    f_X12_walk_b317 (nn W) (oN (nn 99999) (mnK (T W) 8)) (nn m) (nn f) (nn j) (nn K) (nn v + oN (nn 99999) d) (nn (8 * K + j)) s2 h = some (.inl (nn W, oN (nn 99999) (mnK (upT T K j (omn (T K j) (oad (some v) d)) W) 8), nn m, nn f, nn (j + 1), qw_I h 164 (8 * K + j) s2)) := by
  have q := r_mn (C := 99999) (v := v) (old := mnK (T W) 8) (d := d) (by omega) (by omega) (fun a q => by have := mnK_bd b q; omega) h2
  unfold f_X12_walk_b317
  rw [qck_nn (by omega) (by omega), qbd_e, nn_cl (by omega), best_up hj]
  by_cases c : K = W
  · rw [if_pos ((nn_eq (by omega) (by omega)).mpr c), if_pos c]
    by_cases c2 : oN (nn 99999) (mnK (T W) 8) ≤ nn v + oN (nn 99999) d
    · rw [if_pos c2] at q ⊢
      unfold f_X12_walk_b336 f_X12_walk_b338 f_X12_walk_b340
      rw [qbd_e, qbd_e, nn_add1, q]
    · rw [if_neg c2] at q ⊢
      unfold f_X12_walk_b338 f_X12_walk_b340
      rw [qbd_e, qbd_e, nn_add1, q]
  · rw [if_neg (fun q => c ((nn_eq (by omega) (by omega)).mp q)), if_neg c]
    unfold f_X12_walk_b336 f_X12_walk_b338 f_X12_walk_b340
    rw [qbd_e, qbd_e, nn_add1]
theorem r_tourIn {s : Sg} {h : qa_M} {W m0 s0 m f : Nat} {T : Nat → Nat → Option Nat} (w : WF s) (hd : ∀ i j, i < gH s → j < gH s → h.1 163 (8 * i + j) = oN (nn 99999) (dH s i j)) (hW : W < 256) (hWN : ∀ a, W.testBit a = true → a < gH s) (h0 : s0 < gH s) (hm : m < 256) (hf : f < 8) (e : eqT W m0 s0 (dH s) T (cutS m f 0)) (b : bdT T) (t : TabR T h) {P : (Int32 × Int32 × Int32 × Int32 × qa_M) ⊕ ((Int32 × Int32 × Int32 × qa_M) ⊕ (Int32 × qa_M)) → Prop}
    (hP : ∀ g T2, qfr [(164, 0)] h g → eqT W m0 s0 (dH s) T2 (cutS m (f + 1) 0) → bdT T2 → TabR T2 g → P (.inl (nn W, oN (nn 99999) (mnK (T2 W) 8), nn m, nn (f + 1), g))) :
    qW (f_X12_walk_b184_loop (nn W) (oN (nn 99999) (mnK (T W) 8)) (nn m) (nn f) (nn 0) h) P := by
  have l8 := w.h.2
  unfold f_X12_walk_b184_loop
  refine qW_for 8 (fun j z => ∃ g T2, z = (nn W, oN (nn 99999) (mnK (T2 W) 8), nn m, nn f, nn j, g) ∧ qfr [(164, 0)] h g ∧ eqT W m0 s0 (dH s) T2 (cutS m f j) ∧ bdT T2 ∧ TabR T2 g) ?_ ?_ (Nat.zero_le _) ⟨h, T, rfl, qfr_rf, e, b, t⟩
  · rintro j z hj ⟨g, T2, rfl, fr, e, b, t⟩
    show qW (f_X12_walk_b184 (nn W) _ (nn m) (nn f) (nn j) g) _
    unfold f_X12_walk_b184
    rw [show (8 : Int32) = nn 8 from rfl, if_neg (fun q => by rw [nn_le (by omega) (by omega)] at q; omega)]
    simp only [nn_mul, nn_add]
    rw [qck_nn (by omega) (by omega), nn_cl (by omega), t m f hm hf]
    cases v : T2 m f with
    | none =>
      rw [if_pos (by decide)]
      unfold f_X12_walk_b346
      rw [qbd_e, nn_add1, qup_s, qW_some]
      exact hP g T2 fr (eqT_exit e v) b t
    | some v0 =>
      have hv0 := b m f v0 v
      have hfN : f < gH s := by
        rcases Nat.lt_or_ge f (gH s) with c | c
        · exact c
        · rw [eqT_none e hWN h0 hm c hf] at v
          cases v
      have n1 : ¬ ((99999 : Int32) ≤ oN (nn 99999) (some v0)) := fun q => by
        have q : nn 99999 ≤ nn v0 := q
        rw [nn_le (by omega) (by omega)] at q
        omega
      rw [if_neg n1, nn_sh1 (by omega), nn_or, qbd_e, r_has32 (by omega) (by omega), qbn_s]
      simp only [bi_e0]
      cases c1 : W.testBit j with
      | false =>
        rw [if_pos rfl]
        unfold f_X12_walk_b340
        rw [qbd_e, nn_add1, qW_some]
        exact ⟨g, T2, rfl, fr, eqT_skip e (by rw [c1]; rfl), b, t⟩
      | true =>
        rw [if_neg (by decide), r_has32 (by omega) (by omega), qbn_s]
        simp only [bi_e0]
        cases c2 : m.testBit j with
        | true =>
          rw [if_neg (by decide)]
          unfold f_X12_walk_b340
          rw [qbd_e, nn_add1, qW_some]
          exact ⟨g, T2, rfl, fr, eqT_skip e (by rw [c1, c2]; rfl), b, t⟩
        | false =>
          have hjN := hWN j c1
          have hK := or_256 hm hj
          rw [if_pos rfl, qck_nn (by omega) (by omega), qck_nn (by omega) (by omega), qbd_e, nn_mul, nn_add, qck_nn (by omega) (by omega), nn_cl (n := 8 * f + j) (by omega), (fr.1 163 _ rfl).1, hd f j hfN hjN, t m f hm hf, v, nn_cl (n := 8 * (m ||| 2 ^ j) + j) (by omega), t _ j hK hj]
          rw [show oN (nn 99999) (some v0) = nn v0 from rfl]
          have q := r_mn (C := 99999) (v := v0) (old := T2 (m ||| 2 ^ j) j) (d := dH s f j) (by omega) (by omega) (fun a q => by have := b _ _ _ q; omega) (fun a q => by have := dH_lt _ _ _ q; omega)
          have fin : ∀ s2, s2 = oN (nn 99999) (omn (T2 (m ||| 2 ^ j) j) (oad (some v0) (dH s f j))) → qW (f_X12_walk_b317 (nn W) (oN (nn 99999) (mnK (T2 W) 8)) (nn m) (nn f) (nn j) (nn (m ||| 2 ^ j)) (nn v0 + oN (nn 99999) (dH s f j)) (nn (8 * (m ||| 2 ^ j) + j)) s2 g) (Sum.elim (fun z => ∃ g T2, z = (nn W, oN (nn 99999) (mnK (T2 W) 8), nn m, nn f, nn (j + 1), g) ∧ qfr [(164, 0)] h g ∧ eqT W m0 s0 (dH s) T2 (cutS m f (j + 1)) ∧ bdT T2 ∧ TabR T2 g) P) := by
            intro s2 hs2
            rw [r_317 (by omega) b hW hK hj (fun a q => by have := dH_lt _ _ _ q; omega), qW_some]
            refine ⟨_, upT T2 (m ||| 2 ^ j) j (omn (T2 (m ||| 2 ^ j) j) (oad (T2 m f) (dH s f j))), by rw [v], qfr_tr fr (qfr_I0 rfl (by simp) qfr_rf), eqT_step e c1 c2, bdT_step b dH_lt c2, ?_⟩
            rw [v, hs2]
            exact TabR_up t hK hj
          show qW (if _ ≤ _ then _ else _) _
          refine qW_ite.mpr ⟨fun c => ?_, fun c => ?_⟩
          · rw [qck_nn (by omega) (by omega)]
            refine fin _ ?_
            rw [← q]
            exact (if_pos c).symm
          · refine fin _ ?_
            rw [← q]
            exact (if_neg c).symm
  · rintro z ⟨g, T2, rfl, fr, e, b, t⟩
    show qW (f_X12_walk_b184 (nn W) _ (nn m) (nn f) (nn 8) g) _
    unfold f_X12_walk_b184 f_X12_walk_b346
    rw [if_pos (by decide), qbd_e, nn_add1, qup_s, qW_some]
    exact hP g T2 fr (eqT_row e (fun a q => by have := hWN a q; omega)) b t
/-- the reference's answer, out of its table -/
theorem r_tours {s : Sg} {h : qa_M} {i W : Nat} (w : WF s) (hd : ∀ i j, i < gH s → j < gH s → h.1 163 (8 * i + j) = oN (nn 99999) (dH s i j)) (hi : i < gH s) (hW : W < 2 ^ gH s) :
    qW (f_X12_walk_b102 (nn i) (nn W) h) (fun z => ∃ T, eqT W (2 ^ i &&& W) i (dH s) T (cutS 256 0 0) ∧ z.1 = oI (mnK (T W) 8)) := by
  have l8 := w.h.2
  have hW8 : W < 256 := Nat.lt_of_lt_of_le hW (Nat.pow_le_pow_right (by omega) l8)
  have hWN : ∀ a, W.testBit a = true → a < gH s := by
    intro a q
    rcases Nat.lt_or_ge a (gH s) with c | c
    · exact c
    · rw [Nat.testBit_lt_two_pow (Nat.lt_of_lt_of_le hW (Nat.pow_le_pow_right (by omega) c))] at q
      cases q
  unfold f_X12_walk_b102 f_X12_walk_b104_loop
  rw [qbd_e, show (0 : Int32) = nn 0 from rfl]
  refine qW_for 2048 (fun k z => ∃ g, z = (nn i, nn W, nn k, g) ∧ qfr [(164, 0)] h g ∧ ∀ j, j < k → g.1 164 j = nn 99999) ?_ ?_ (Nat.zero_le _) ⟨h, rfl, qfr_rf, fun j hj => by omega⟩
  · rintro k z hk ⟨g, rfl, f, q⟩
    show qW (f_X12_walk_b104 (nn i) (nn W) (nn k) g) _
    unfold f_X12_walk_b104
    rw [if_neg (fun q => by rw [show (2048 : Int32) = nn 2048 from rfl, nn_le (by omega) (by omega)] at q; omega), qck_nn hk (by omega), qbd_e, qbd_e, nn_add1, qW_some, nn_cl (by omega)]
    refine ⟨_, rfl, qfr_tr f (qfr_I0 rfl (by simp) qfr_rf), fun j hj => ?_⟩
    by_cases c : j = k
    · subst c
      rw [wI_at]
      rfl
    · rw [wI_ne (by omega)]
      exact q j (by omega)
  · rintro z ⟨g, rfl, f, q⟩
    show qW (f_X12_walk_b104 (nn i) (nn W) (nn 2048) g) _
    unfold f_X12_walk_b104
    have hA : 2 ^ i &&& W < 256 := by have := Nat.and_le_right (n := 2 ^ i) (m := W); omega
    rw [if_pos (by decide), qW_up]
    unfold f_X12_walk_b128
    rw [nn_sh1 (by omega), nn_and, qbd_e, show (8 : Int32) = nn 8 from rfl, nn_mul, nn_add, qck_nn (by omega) (by omega), qbd_e, nn_cl (by omega)]
    have t0 : TabR (ini (2 ^ i &&& W) i) (qw_I g 164 (8 * (2 ^ i &&& W) + i) 0) := by
      intro k a hk ha
      unfold ini
      by_cases c : k = 2 ^ i &&& W ∧ a = i
      · rw [if_pos c, c.1, c.2, wI_at]
        rfl
      · rw [if_neg c, wI_ne (by omega), q _ (by omega)]
        rfl
    have fA : qfr [(164, 0)] h (qw_I g 164 (8 * (2 ^ i &&& W) + i) 0) := qfr_I0 rfl (by simp) f
    obtain ⟨G0, hG0⟩ : ∃ G0, G0 = qw_I g 164 (8 * (2 ^ i &&& W) + i) 0 := ⟨_, rfl⟩
    rw [← hG0] at t0 fA ⊢
    have b0 : mnK (ini (2 ^ i &&& W) i W) 8 = if 2 ^ i &&& W = W then some 0 else none := by
      by_cases c : 2 ^ i &&& W = W
      · rw [if_pos c]
        have := mnK_up (F := fun _ => none) (a := i) (v := some 0) (n := 8)
        rw [if_pos (by omega), show mnK (fun _ => none) 8 = none from rfl] at this
        rw [show (some 0 : Option Nat) = omn none (some 0) from rfl, ← this]
        refine mnK_congr (fun b hb => ?_)
        unfold ini
        by_cases c2 : b = i
        · rw [if_pos ⟨c.symm, c2⟩, if_pos c2]
          rfl
        · rw [if_neg (fun q => c2 q.2), if_neg c2]
      · rw [if_neg c]
        have := mnK_more (F := ini (2 ^ i &&& W) i W) (n := 0) 8 (fun b _ hb => by
          unfold ini
          rw [if_neg (fun q => c q.1.symm)])
        exact this
    have goal : qW (f_X12_walk_b158 (nn W) (oN (nn 99999) (mnK (ini (2 ^ i &&& W) i W) 8)) G0) (fun z => ∃ T, eqT W (2 ^ i &&& W) i (dH s) T (cutS 256 0 0) ∧ z.1 = oI (mnK (T W) 8)) := by
      unfold f_X12_walk_b158 f_X12_walk_b163_loop
      rw [qbd_e, qbd_e, show (0 : Int32) = nn 0 from rfl]
      refine qW_for 256 (fun m z => ∃ G T, z = (nn W, oN (nn 99999) (mnK (T W) 8), nn m, G) ∧ qfr [(164, 0)] h G ∧ eqT W (2 ^ i &&& W) i (dH s) T (cutS m 0 0) ∧ bdT T ∧ TabR T G) ?_ ?_ (Nat.zero_le _) ⟨G0, _, rfl, fA, eqT_0, bdT_0, t0⟩
      · rintro m z hm ⟨G, T, rfl, fG, e, b, t⟩
        show qW (f_X12_walk_b163 (nn W) _ (nn m) G) _
        unfold f_X12_walk_b163 f_X12_walk_b174_loop
        rw [if_neg (fun q => by rw [show (256 : Int32) = nn 256 from rfl, nn_le (by omega) (by omega)] at q; omega), qbd_e, show (0 : Int32) = nn 0 from rfl]
        refine qW_for 8 (fun f z => ∃ G T, z = (nn W, oN (nn 99999) (mnK (T W) 8), nn m, nn f, G) ∧ qfr [(164, 0)] h G ∧ eqT W (2 ^ i &&& W) i (dH s) T (cutS m f 0) ∧ bdT T ∧ TabR T G) ?_ ?_ (Nat.zero_le _) ⟨G, T, rfl, fG, e, b, t⟩
        · rintro f z hf ⟨G, T, rfl, fG, e, b, t⟩
          show qW (f_X12_walk_b174 (nn W) _ (nn m) (nn f) G) _
          unfold f_X12_walk_b174
          rw [if_neg (fun q => by rw [show (8 : Int32) = nn 8 from rfl, nn_le (by omega) (by omega)] at q; omega), qbd_e, show (0 : Int32) = nn 0 from rfl]
          refine r_tourIn w (fun i j hi hj => by rw [(fG.1 163 _ rfl).1]; exact hd i j hi hj) hW8 hWN hi hm hf e b t ?_
          intro G2 T2 f2 e b t
          exact ⟨G2, T2, rfl, qfr_tr fG f2, e, b, t⟩
        · rintro z ⟨G, T, rfl, fG, e, b, t⟩
          show qW (f_X12_walk_b174 (nn W) _ (nn m) (nn 8) G) _
          unfold f_X12_walk_b174 f_X12_walk_b352
          rw [if_pos (by decide), qbd_e, nn_add1, qup_s, qW_some]
          exact ⟨G, T, rfl, fG, eqT_key e (Nat.le_refl _) (fun b h1 h2 => by omega), b, t⟩
      · rintro z ⟨G, T, rfl, fG, e, b, t⟩
        show qW (f_X12_walk_b163 (nn W) _ (nn 256) G) _
        unfold f_X12_walk_b163 f_X12_walk_b358
        rw [if_pos (by decide), show (99999 : Int32) = nn 99999 from rfl, oI_lt (by omega) (fun x q => by have := mnK_bd b q; omega), qup_s, qW_some]
        exact ⟨T, e, rfl⟩
    rw [b0] at goal
    by_cases c : 2 ^ i &&& W = W
    · rw [if_pos ((nn_eq (by omega) (by omega)).mpr c)]
      rw [if_pos c] at goal
      exact goal
    · rw [if_neg (fun q => c ((nn_eq (by omega) (by omega)).mp q))]
      rw [if_neg c] at goal
      exact goal
