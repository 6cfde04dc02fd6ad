/-! THE CLASS'S FIRST OF TWO LOOKS -/
def oV (F : Nat → Nat) : Option Nat → Int32
  | none => 0
  | some b => nn (F b)
theorem stq_t {F : Nat → Nat} {b k : Nat} (h : F b ≤ F k) : stq F (some b) k = some b := if_pos h
theorem stq_f {F : Nat → Nat} {b k : Nat} (h : ¬ F b ≤ F k) : stq F (some b) k = some k := if_neg h
theorem k_firstB {F : Nat → Nat} {o : Option Nat} {k : Nat} {g : qa_M} (hF : ∀ q, F q < 2147483648) (hm : ∀ b, o = some b → b < k) (hk : k < 8) : f_X0_chooseFirst_b51 (oM o) (oV F o) (nn k) (nn (F k)) g = some (.inl (oM (stq F o k), oV F (stq F o k), nn (k + 1), g)) := by
  unfold f_X0_chooseFirst_b51 f_X0_chooseFirst_b62 f_X0_chooseFirst_b67
  cases o with
  | none =>
    rw [if_pos (show oM none = -1 from rfl), qbd_e, qbd_e, qbd_e, nn_add1]
    rfl
  | some b =>
    have hb := hm b rfl
    rw [show oM (some b) = nn b from rfl, show oV F (some b) = nn (F b) from rfl, if_neg (nn_nm1 (by omega))]
    by_cases c : F b ≤ F k
    · rw [if_pos ((nn_le (hF b) (hF k)).mpr c), qbd_e, nn_add1, stq_t c]
      rfl
    · rw [if_neg (fun e => c ((nn_le (hF b) (hF k)).mp e)), qbd_e, qbd_e, qbd_e, nn_add1, stq_f c]
      rfl
theorem k_chooseFirst {s : Sg} {L : Nat → Lw} {S : Nat} {h : qa_M} (w : WF s) (pk : PK s L S h) : qW (m_X0_chooseFirst h) (BT (plO s L S) (bsl (plO s L S) (List.range (gH s)))) := by
  have l8 := w.h.2
  have hF : ∀ q, plO s L S q < 2147483648 := fun q => by have := plO_le (L := L) (S := S) (i := q) w; omega
  unfold m_X0_chooseFirst
  rw [qbd_e, qbd_e, qbd_e]
  unfold f_X0_chooseFirst_b6_loop
  refine qW_for (gH s) (fun k t => ∃ g, t = (oM (bsl (plO s L S) (List.range k)), oV (plO s L S) (bsl (plO s L S) (List.range k)), nn k, g) ∧ qfr [(40, 15), (40, 16)] h g) ?_ ?_ (Nat.zero_le _) ⟨h, rfl, qfr_rf⟩
  · rintro k t hk ⟨g, rfl, f⟩
    have pg : PK s L S g := PK_fr pk f rfl rfl (fun j => rfl)
    obtain ⟨o, ho⟩ : ∃ o, o = bsl (plO s L S) (List.range k) := ⟨_, rfl⟩
    have hm : ∀ b, o = some b → b < k := fun b e => List.mem_range.mp (bsl_mem rfl (ho.symm.trans e))
    have hn : bsl (plO s L S) (List.range (k + 1)) = stq (plO s L S) o k := by rw [List.range_succ, bsl_snoc, ho]
    rw [← ho, hn]
    show qW (f_X0_chooseFirst_b6 (oM o) (oV (plO s L S) o) (nn k) g) _
    unfold f_X0_chooseFirst_b6
    rw [pg.2.1, if_neg (fun q => by rw [nn_le (by omega) (by omega)] at q; omega), qbd_e, qbd_e]
    unfold f_X0_chooseFirst_b20_loop
    refine qW_for 16 (fun a t => ∃ g, t = (oM o, oV (plO s L S) o, nn k, nn (mxN (plA s L S k) a), nn a, g) ∧ qfr [(40, 15), (40, 16)] h g) ?_ ?_ (Nat.zero_le _) ⟨g, rfl, f⟩
    · rintro a t ha ⟨g, rfl, f⟩
      have pg : PK s L S g := PK_fr pk f rfl rfl (fun j => rfl)
      have h1 := mxN_le (f := plA s L S k) (fun a => wT_le w) a
      have h2 : plA s L S k a ≤ 1679616 := wT_le w
      show qW (f_X0_chooseFirst_b20 (oM o) (oV (plO s L S) o) (nn k) (nn (mxN (plA s L S k) a)) (nn a) g) _
      unfold f_X0_chooseFirst_b20
      rw [if_neg (by rw [show (16 : Int32) = nn 16 from rfl, nn_le (by omega) (by omega)]; omega), qW_bv]
      refine qW_fr (k_chooseSecond w pg hk ha) (fun z e => fr_X0_chooseSecond _ _ _ e) ?_
      intro g2 bt f2
      have f2 : qfr [(40, 15), (40, 16)] g g2 := f2
      have e15 : g2.1 40 15 = nn (plA s L S k a) := (bt.2 _ rfl).2
      rw [e15, nn_qmax (by omega) (by omega), qbd_e, qbd_e, nn_add1, qW_some]
      exact ⟨g2, rfl, qfr_tr f f2⟩
    · rintro t ⟨g, rfl, f⟩
      show qW (f_X0_chooseFirst_b20 (oM o) (oV (plO s L S) o) (nn k) (nn (mxN (plA s L S k) 16)) (nn 16) g) _
      unfold f_X0_chooseFirst_b20
      have fb := k_firstB (F := plO s L S) (g := g) hF hm (by omega)
      have e16 : mxN (plA s L S k) 16 = plO s L S k := by unfold plO; exact Eq.refl _
      rw [if_pos (show (16 : Int32) ≤ nn 16 by decide), e16, fb, qup_s, qW_some]
      exact ⟨g, rfl, f⟩
  · rintro t ⟨g, rfl, f⟩
    have pg : PK s L S g := PK_fr pk f rfl rfl (fun j => rfl)
    show qW (f_X0_chooseFirst_b6 (oM _) (oV _ _) (nn (gH s)) g) _
    unfold f_X0_chooseFirst_b6 f_X0_chooseFirst_b73
    rw [pg.2.1, if_pos ((nn_le (by omega) (by omega)).mpr (by omega)), qbd_e, qbd_e, qup_s, qW_some]
    refine ⟨fun e => ?_, fun b e => ?_⟩
    · rw [e, wI_ne (by omega), wI_at]
      rfl
    · rw [e]
      exact ⟨by rw [wI_ne (by omega), wI_at]; rfl, wI_at⟩
