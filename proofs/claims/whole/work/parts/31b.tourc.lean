/-! WALKS: THE CLASS'S TOURS -/
def dH (s : Sg) (i j : Nat) : Option Nat := hw s (hAt s i) j 36
theorem dH_lt {s : Sg} : ∀ i j v, dH s i j = some v → v < 36 := fun _ _ _ h => hw_lt h
def TabC (T : Nat → Nat → Option Nat) (h : qa_M) : Prop := ∀ k a, k < 256 → a < 8 → h.1 50 (k * 8 + a) = oN (nn 1000000) (T k a)
theorem andn_256 {a b : Nat} (h : a < 256) : andn a b < 1024 := by have := andn_le (a := a) (b := b); omega
theorem TabC_up {T : Nat → Nat → Option Nat} {h : qa_M} (t : TabC T h) {k a : Nat} {v : Option Nat} (hk : k < 256) (ha : a < 8) : TabC (upT T k a v) (qw_I h 50 (k * 8 + a) (oN (nn 1000000) v)) := by
  intro k2 a2 hk2 ha2
  unfold upT
  by_cases c : k2 = k ∧ a2 = a
  · rw [if_pos c, c.1, c.2, wI_at]
  · rw [if_neg c, wI_ne (by omega)]
    exact t k2 a2 hk2 ha2
theorem k_goOn {s : Sg} {h : qa_M} {F m0 s0 m f : Nat} {T : Nat → Nat → Option Nat} (w : WF s) (e2 : h.1 4 2 = nn (gH s)) (hd : ∀ i j, i < gH s → j < gH s → h.1 49 (i * 8 + j) = oN (nn 1000000) (dH s i j)) (hF : F < 256) (hFN : ∀ a, F.testBit a = true → a < gH s) (hm : m < 256) (hf : f < gH s) (e : eqT F m0 s0 (dH s) T (cutS m f 0)) (b : bdT T) (t : TabC T h) :
    qW (m_X10_goOn (nn F) (nn m) (nn f) h) (fun g => ∃ T2, eqT F m0 s0 (dH s) T2 (cutS m (f + 1) 0) ∧ bdT T2 ∧ TabC T2 g) := by
  have l8 := w.h.2
  unfold m_X10_goOn
  rw [show (8 : Int32) = nn 8 from rfl, nn_mul, nn_add, qck_nn (by omega) (by omega), qbd_e, qbd_e, nn_cl (by omega), t m f hm (by omega)]
  unfold f_X10_goOn_b17_loop
  cases v : T m f with
  | none =>
    refine qW_lpin ?_
    show qW (f_X10_goOn_b17 (nn F) (nn m) (nn f) (nn 1000000) 0 h) _
    unfold f_X10_goOn_b17
    rw [e2, show (0 : Int32) = nn 0 from rfl, if_neg (fun q => by rw [nn_le (by omega) (by omega)] at q; omega), if_pos (by decide), qup_s, qW_some]
    exact ⟨T, eqT_exit e v, b, t⟩
  | some v0 =>
    have hv0 := b m f v0 v
    refine qW_for (gH s) (fun j z => ∃ g T2, z = (nn F, nn m, nn f, nn v0, nn j, g) ∧ qfr [(50, 0)] h g ∧ eqT F m0 s0 (dH s) T2 (cutS m f j) ∧ bdT T2 ∧ TabC T2 g ∧ T2 m f = some v0) ?_ ?_ (Nat.zero_le _) ⟨h, T, rfl, qfr_rf, e, b, t, v⟩
    · rintro j z hj ⟨g, T2, rfl, fr, e, b, t, v⟩
      show qW (f_X10_goOn_b17 (nn F) (nn m) (nn f) (nn v0) (nn j) g) _
      unfold f_X10_goOn_b17
      rw [(fr.1 4 2 rfl).1, e2, if_neg (fun q => by rw [nn_le (by omega) (by omega)] at q; omega), if_neg (fun q => by rw [show (1000000 : Int32) = nn 1000000 from rfl, nn_le (by omega) (by omega)] at q; omega), nn_adn, nn_bit j (by omega) _ (andn_256 hF)]
      simp only [bi_e0, andn_tb]
      cases c : (F.testBit j && !m.testBit j) with
      | false =>
        rw [if_pos rfl]
        unfold f_X10_goOn_b93
        rw [qbd_e, nn_add1, qW_some]
        exact ⟨g, T2, rfl, fr, eqT_skip e c, b, t, v⟩
      | true =>
        rw [if_neg (by decide)]
        rw [Bool.and_eq_true, Bool.not_eq_true'] at c
        have hK := or_256 hm (show j < 8 by omega)
        rw [nn_sh1 (by omega), nn_or, show (8 : Int32) = nn 8 from rfl, nn_mul, nn_add, qbd_e, qck_nn (by omega) (by omega), nn_mul, nn_add, qck_nn (by omega) (by omega), qck_nn (by omega) (by omega), qbd_e]
        unfold f_X10_goOn_b93
        rw [qbd_e, nn_add1, qW_some, nn_cl (by omega), nn_cl (by omega), t _ j hK (by omega), (fr.1 49 _ rfl).1, hd f j hf hj]
        rw [k_mn (by omega) (by omega) (fun a q => by have := b _ _ _ q; omega) (fun a q => by have := dH_lt _ _ _ q; omega)]
        refine ⟨_, upT T2 (m ||| 2 ^ j) j (omn (T2 (m ||| 2 ^ j) j) (oad (T2 m f) (dH s f j))), rfl, qfr_tr fr (qfr_I0 rfl (by simp) qfr_rf), eqT_step e c.1 c.2, bdT_step b dH_lt c.2, ?_, ?_⟩
        · rw [v]
          exact TabC_up t hK (by omega)
        · unfold upT
          have := or_self c.2
          rw [if_neg (by omega)]
          exact v
    · rintro z ⟨g, T2, rfl, fr, e, b, t, v⟩
      show qW (f_X10_goOn_b17 (nn F) (nn m) (nn f) (nn v0) (nn (gH s)) g) _
      unfold f_X10_goOn_b17
      rw [(fr.1 4 2 rfl).1, e2, if_pos ((nn_le (by omega) (by omega)).mpr (by omega)), qup_s, qW_some]
      exact ⟨T2, eqT_row e hFN, b, t⟩
theorem oN_mn {C : Nat} {a b : Option Nat} (hC : C < 1073741824) (h1 : ∀ x, a = some x → x < C) (h2 : ∀ x, b = some x → x < C) : q_min (oN (nn C) a) (oN (nn C) b) = oN (nn C) (omn a b) := by
  have := k_mn (v := 0) (old := a) (d := b) hC (by omega) h1 (fun x q => by have := h2 x q; omega)
  rw [show nn 0 + oN (nn C) b = oN (nn C) b by rw [oN_v, nn_add, Nat.zero_add]] at this
  rw [this]
  cases b with
  | none => rfl
  | some b => show oN _ (omn a (some (0 + b))) = _; rw [Nat.zero_add]
/-- the class's answer, out of its table -/
theorem oI_lt {C : Nat} {o : Option Nat} {h : qa_M} (hC : C < 1073741824) (h1 : ∀ x, o = some x → x < C) : (if oN (nn C) o < nn C then some (oN (nn C) o, h) else some ((-2 : Int32), h)) = some (oI o, h) := by
  cases o with
  | none => rw [if_neg (fun q => by have q : nn C < nn C := q; rw [nn_lt (by omega) (by omega)] at q; omega)]; rfl
  | some a => have := h1 a rfl; exact if_pos (show nn a < nn C from (nn_lt (by omega) (by omega)).mpr this)
theorem mnK_bd {T : Nat → Nat → Option Nat} (b : bdT T) {k n v : Nat} (h : mnK (T k) n = some v) : v ≤ 36 * k := by
  obtain ⟨a, _, e⟩ := mnK_mem h
  exact b k a v e
theorem k_least50 {s : Sg} {h : qa_M} {F : Nat} {T : Nat → Nat → Option Nat} (w : WF s) (e2 : h.1 4 2 = nn (gH s)) (hF : F < 256) (b : bdT T) (t : TabC T h) : f_X10_fewestSteps_b100 (nn F) h = some (oI (mnK (T F) (gH s)), h) := by
  have l8 := w.h.2
  unfold f_X10_fewestSteps_b100 f_X10_fewestSteps_b107_loop
  rw [qbd_e, qbd_e]
  refine qlp_for0 (fun k => (nn F, oN (nn 1000000) (mnK (T F) k), nn k, h)) (gH s) ?_ ?_
  · intro k hk
    show f_X10_fewestSteps_b107 (nn F) _ (nn k) h = _
    unfold f_X10_fewestSteps_b107
    rw [e2, if_neg (fun q => by rw [nn_le (by omega) (by omega)] at q; omega), show (8 : Int32) = nn 8 from rfl, nn_mul, nn_add, qck_nn (by omega) (by omega), qbd_e, qbd_e, nn_cl (by omega), t F k hF (by omega), nn_add1]
    rw [oN_mn (by omega) (fun x q => by have := mnK_bd b q; omega) (fun x q => by have := b _ _ _ q; omega)]
    rfl
  · show f_X10_fewestSteps_b107 (nn F) _ (nn (gH s)) h = _
    unfold f_X10_fewestSteps_b107 f_X10_fewestSteps_b142
    rw [e2, if_pos ((nn_le (by omega) (by omega)).mpr (by omega)), show (1000000 : Int32) = nn 1000000 from rfl, oI_lt (by omega) (fun x q => by have := mnK_bd b q; omega), qup_s]
theorem k_fewest {s : Sg} {h : qa_M} {i W : Nat} (w : WF s) (r : RelL 4 s h) (hi : i < gH s) (hW : W < 2 ^ gH s) :
    qW (m_X10_fewestSteps (nn i) (nn W) h) (fun z => ∃ T, eqT (W ||| 2 ^ i) (2 ^ i) i (dH s) T (cutS ((W ||| 2 ^ i) + 1) 0 0) ∧ z.1 = oI (mnK (T (W ||| 2 ^ i)) (gH s))) := by
  have l8 := w.h.2
  have hW8 : W < 256 := Nat.lt_of_lt_of_le hW (Nat.pow_le_pow_right (by omega) l8)
  have hF := or_256 hW8 (show i < 8 by omega)
  have hFN : ∀ a, (W ||| 2 ^ i).testBit a = true → a < gH s := by
    intro a q
    rw [or_bit, Bool.or_eq_true] at q
    rcases q with q | q
    · rcases Nat.lt_or_ge a (gH s) with c | c
      · exact c
      · rw [Nat.testBit_lt_two_pow (Nat.lt_of_lt_of_le hW (Nat.pow_le_pow_right (by omega) c))] at q
        cases q
    · have := of_decide_eq_true q; omega
  unfold m_X10_fewestSteps
  rw [nn_sh1 (by omega), nn_or, qbd_e, qbd_e, show (0 : Int32) = nn 0 from rfl]
  obtain ⟨F, hFe⟩ : ∃ F, F = W ||| 2 ^ i := ⟨_, rfl⟩
  rw [← hFe] at hF hFN ⊢
  refine k_hills w r ?_
  intro g fg hd
  have e2 : g.1 4 2 = nn (gH s) := by rw [(fg.1 4 2 rfl).1]; exact r.1.2.2.1.trans w.h.1
  unfold f_X10_fewestSteps_b32
  rw [qW_bv]
  refine qW_fr (k_fill (h := g) (a := 50) (n := 2048) (v := 1000000) (fun g => wl_50 g) (by omega)) (fun g e => fr_J7_fill_53178 _ _ _ e) ?_
  intro g1 z1 f1
  have f1 : qfr [(50, 0)] g g1 := f1
  have hb : 2 ^ i < 256 := by have := or_256 (m := 0) (a := i) (by omega) (by omega); rw [Nat.zero_or] at this; exact this
  rw [nn_sh1 (by omega), show (8 : Int32) = nn 8 from rfl, nn_mul, nn_add, qck_nn (by omega) (by omega), qbd_e, qbd_e, nn_cl (by omega)]
  have t0 : TabC (ini (2 ^ i) i) (qw_I g1 50 (2 ^ i * 8 + i) 0) := by
    intro k a hk ha
    unfold ini
    by_cases c : k = 2 ^ i ∧ a = i
    · rw [if_pos c, c.1, c.2, wI_at]
      rfl
    · rw [if_neg c, wI_ne (by omega), z1 _ (by omega)]
      rfl
  have fA : qfr [(50, 0)] g (qw_I g1 50 (2 ^ i * 8 + i) 0) := qfr_I0 rfl (by simp) f1
  obtain ⟨G0, hG0⟩ : ∃ G0, G0 = qw_I g1 50 (2 ^ i * 8 + i) 0 := ⟨_, rfl⟩
  rw [← hG0] at t0 fA ⊢
  unfold f_X10_fewestSteps_b58_loop
  rw [show (0 : Int32) = nn 0 from rfl]
  refine qW_for (F + 1) (fun m z => ∃ G T, z = (nn F, nn m, G) ∧ qfr [(50, 0)] g G ∧ eqT F (2 ^ i) i (dH s) T (cutS m 0 0) ∧ bdT T ∧ TabC T G) ?_ ?_ (Nat.zero_le _) ⟨G0, _, rfl, fA, eqT_0, bdT_0, t0⟩
  · rintro m z hm ⟨G, T, rfl, fG, e, b, t⟩
    show qW (f_X10_fewestSteps_b58 (nn F) (nn m) G) _
    unfold f_X10_fewestSteps_b58
    rw [if_neg (fun q => by rw [nn_lt (by omega) (by omega)] at q; omega), qbd_e]
    unfold f_X10_fewestSteps_b68_loop
    rw [show (0 : Int32) = nn 0 from rfl]
    refine qW_for (gH s) (fun f z => ∃ G T, z = (nn F, nn m, nn f, G) ∧ qfr [(50, 0)] g G ∧ eqT F (2 ^ i) i (dH s) T (cutS m f 0) ∧ bdT T ∧ TabC T G) ?_ ?_ (Nat.zero_le _) ⟨G, T, rfl, fG, e, b, t⟩
    · rintro f z hf ⟨G, T, rfl, fG, e, b, t⟩
      have e2G : G.1 4 2 = nn (gH s) := by rw [(fG.1 4 2 rfl).1, e2]
      show qW (f_X10_fewestSteps_b68 (nn F) (nn m) (nn f) G) _
      unfold f_X10_fewestSteps_b68
      rw [e2G, if_neg (fun q => by rw [nn_le (by omega) (by omega)] at q; omega), qW_bv]
      refine qW_fr (k_goOn w e2G (fun i j hi hj => by rw [(fG.1 49 _ rfl).1]; exact hd i j hi hj) hF hFN (by omega) hf e b t) (fun z e => fr_X10_goOn _ _ _ _ e) ?_
      rintro G2 ⟨T2, e, b, t⟩ f2
      have f2 : qfr [(50, 0)] G G2 := f2
      rw [qbd_e, nn_add1, qW_some]
      exact ⟨G2, T2, rfl, qfr_tr fG f2, e, b, t⟩
    · rintro z ⟨G, T, rfl, fG, e, b, t⟩
      have e2G : G.1 4 2 = nn (gH s) := by rw [(fG.1 4 2 rfl).1, e2]
      show qW (f_X10_fewestSteps_b68 (nn F) (nn m) (nn (gH s)) G) _
      unfold f_X10_fewestSteps_b68 f_X10_fewestSteps_b94
      rw [e2G, if_pos ((nn_le (by omega) (by omega)).mpr (by omega)), qbd_e, nn_add1, qup_s, qW_some]
      exact ⟨G, T, rfl, fG, eqT_key e l8 (fun b h1 h2 => eqT_none e hFN hi (by omega) h1 h2), b, t⟩
  · rintro z ⟨G, T, rfl, fG, e, b, t⟩
    have e2G : G.1 4 2 = nn (gH s) := by rw [(fG.1 4 2 rfl).1, e2]
    show qW (f_X10_fewestSteps_b58 (nn F) (nn (F + 1)) G) _
    unfold f_X10_fewestSteps_b58
    rw [if_pos ((nn_lt (by omega) (by omega)).mpr (by omega)), k_least50 w e2G hF b t, qup_s, qW_some]
    exact ⟨T, e, rfl⟩
