/-! THE REFERENCE'S PLAN -/
theorem bsl_some {F : Nat → Nat} {l : List Nat} (h : l ≠ []) : ∃ b, bsl F l = some b := by
  rw [← List.dropLast_concat_getLast h, bsl_snoc]
  cases bsl F l.dropLast with
  | none => exact ⟨_, rfl⟩
  | some c =>
    show ∃ b, (if F c ≤ F (l.getLast h) then some c else some (l.getLast h)) = some b
    split
    · exact ⟨_, rfl⟩
    · exact ⟨_, rfl⟩
theorem thL_ne {s : Sg} {i : Nat} (h : i < gH s) : thL s i (gH s) ≠ [] := by
  intro e
  have : ∀ j, j < gH s → (j ≠ i ∨ gH s = 1) → False := by
    intro j hj ok
    have hm : j ∈ thL s i (gH s) := by
      unfold thL
      rw [List.mem_filter, List.mem_range]
      exact ⟨hj, decide_eq_true ok⟩
    rw [e] at hm
    cases hm
  by_cases c : gH s = 1
  · exact this i h (.inr c)
  · by_cases d : i = 0
    · exact this 1 (by omega) (.inl (by omega))
    · exact this 0 (by omega) (.inl (by omega))
def thB (s : Sg) (L : Nat → Lw) (S i a : Nat) : Nat := (bsl (wT s L S i a) (thL s i (gH s))).getD 0
theorem thB_is {s : Sg} {L : Nat → Lw} {S i a : Nat} (h : i < gH s) : bsl (wT s L S i a) (thL s i (gH s)) = some (thB s L S i a) ∧ thB s L S i a < gH s := by
  obtain ⟨b, hb⟩ := bsl_some (F := wT s L S i a) (thL_ne h)
  have e : thB s L S i a = b := by unfold thB; rw [hb]; rfl
  rw [e]
  exact ⟨hb, thL_lt (bsl_mem rfl hb)⟩
def plA (s : Sg) (L : Nat → Lw) (S i a : Nat) : Nat := wT s L S i a (thB s L S i a)
theorem mxN_0 {f : Nat → Nat} (h : ∀ k, f k = 0) : ∀ n, mxN f n = 0
  | 0 => rfl
  | n + 1 => by
    show max (mxN f n) (f n) = 0
    rw [mxN_0 h n, h n]
    rfl
theorem wT_0 {s : Sg} {L : Nat → Lw} {S i a j : Nat} (h : twV s (vw s 0 i) (vw s 0 i) (fitL s L S) a a = 0) : wT s L S i a j = 0 := by
  refine mxN_0 (fun b => ?_) 16
  have : twV s (vw s 0 i) (vw s 0 j) (fitL s L S) a b ≤ twV s (vw s 0 i) (vw s 0 i) (fitL s L S) a a := by
    refine List.countP_mono_left ?_
    intro l _ e
    have e := of_decide_eq_true e
    exact decide_eq_true ⟨e.1, e.1⟩
  omega
def plO (s : Sg) (L : Nat → Lw) (S i : Nat) : Nat := mxN (plA s L S i) 16
theorem plO_le {s : Sg} {L : Nat → Lw} {S i : Nat} (w : WF s) : plO s L S i ≤ 1679616 := mxN_le (fun _ => wT_le w) 16
theorem r_planOf {s : Sg} {L : Nat → Lw} {S : Nat} {h : qa_M} (w : WF s) (hs : sg h = s) (bo : BO s L S h) {i : Nat} (hi : i < gH s) : m_X12_planOf (nn i) h = some (nn (plO s L S i), h) := by
  have l8 := w.h.2
  unfold m_X12_planOf f_X12_planOf_b4_loop
  rw [qbd_e, qbd_e]
  refine qlp_for0 (fun k => (nn i, nn (mxN (plA s L S i) k), nn k, h)) 16 ?_ ?_
  · intro k hk
    have h1 := mxN_le (f := plA s L S i) (fun a => wT_le w) k
    have h2 : plA s L S i k ≤ 1679616 := wT_le w
    have il := ix_lt (show i < 8 by omega) hk (show i < 8 by omega) hk
    have cl := Nat.le_trans (twV_le (s := s) (V := vw s 0 i) (W := vw s 0 i) (D := fitL s L S) (a := k) (b := k)) (fit_len w)
    obtain ⟨t1, t2⟩ := thB_is (s := s) (L := L) (S := S) (a := k) hi
    have fin : f_X12_planOf_b41 (nn i) (nn (mxN (plA s L S i) k)) (nn k) (nn (plA s L S i k)) h = some (.inl (nn i, nn (mxN (plA s L S i) (k + 1)), nn (k + 1), h)) := by
      unfold f_X12_planOf_b41
      rw [qbd_e, mx_ite (K := fun v h => f_X12_planOf_b55 (nn i) (nn k) v h) (by omega) (by omega)]
      unfold f_X12_planOf_b55
      rw [qbd_e, qbd_e, nn_add1]
      rfl
    show f_X12_planOf_b4 (nn i) (nn _) (nn k) h = _
    unfold f_X12_planOf_b4
    rw [if_neg (by rw [show (16 : Int32) = nn 16 from rfl, nn_le (by omega) (by omega)]; omega), r_cell, qbn_s, qck_nn (by omega) (by omega), nn_cl (by omega), bo i k i k hi hk hi hk]
    by_cases c : twV s (vw s 0 i) (vw s 0 i) (fitL s L S) k k = 0
    · rw [if_pos (by rw [c]; decide)]
      have z : plA s L S i k = 0 := wT_0 c
      rw [z] at fin
      exact fin
    · rw [if_neg (fun q => by rw [show (0 : Int32) = nn 0 from rfl, nn_le (by omega) (by omega)] at q; omega), r_thenOf w hs bo hi hk, qbn_s, t1]
      show qbn (m_X12_worstThen (nn i) (nn k) (nn (thB s L S i k)) h) _ = _
      rw [r_then0 w bo hi hk t2, qbn_s]
      exact fin
  · show f_X12_planOf_b4 (nn i) (nn _) (nn 16) h = _
    unfold f_X12_planOf_b4
    rw [if_pos (by decide), qup_s]
    rfl
theorem r_planLoop {s : Sg} {L : Nat → Lw} {S : Nat} {h : qa_M} {x : Int32} (w : WF s) (hs : sg h = s) (bo : BO s L S h) : f_X12_plan_b31_loop x (-2) (nn 0) h = some (nxA x (plO s L S) (bsl (plO s L S) (List.range (gH s))), h) := by
  have l8 := w.h.2
  have e2 : h.1 120 2 = nn (gH s) := by rw [← hs]; rw [← hs] at w; exact w.h.1
  have wl : ∀ q, plO s L S q < 2147483648 := fun q => by have := plO_le (L := L) (S := S) (i := q) w; omega
  unfold f_X12_plan_b31_loop
  refine qlp_for0 (fun k => (x, oI (bsl (plO s L S) (List.range k)), nn k, h)) (gH s) ?_ ?_
  · intro k hk
    show f_X12_plan_b31 x (oI _) (nn k) h = _
    unfold f_X12_plan_b31 f_X12_plan_b62 f_X12_plan_b68
    rw [qck_ok (i := 2) (by decide), show (2 : Int32).toNatClampNeg = 2 from rfl, e2, if_neg (fun q => by rw [nn_le (by omega) (by omega)] at q; omega), List.range_succ, bsl_snoc]
    have hm := fun b => bsl_mem (F := plO s L S) (l := List.range k) (b := b) rfl
    revert hm
    cases bsl (plO s L S) (List.range k) with
    | none =>
      intro _
      rw [if_pos (show oI none = -2 from rfl), qbd_e, qbd_e, nn_add1]
      rfl
    | some b =>
      intro hm
      have hb := List.mem_range.mp (hm b rfl)
      show (if nn b = -2 then _ else _) = some (Sum.inl (x, oI (if plO s L S b ≤ plO s L S k then some b else some k), nn (k + 1), h))
      rw [if_neg (nn_nm2 (by omega)), r_planOf w hs bo hk, qbn_s]
      show qbn (m_X12_planOf (nn b) h) _ = _
      rw [r_planOf w hs bo (by omega), qbn_s]
      by_cases c : plO s L S b ≤ plO s L S k
      · rw [if_pos ((nn_le (wl _) (wl _)).mpr c), if_pos c, qbd_e, qbd_e, nn_add1]
      · rw [if_neg (fun q => c ((nn_le (wl _) (wl _)).mp q)), if_neg c, qbd_e, qbd_e, nn_add1]
        rfl
  · show f_X12_plan_b31 x (oI _) (nn (gH s)) h = _
    unfold f_X12_plan_b31 f_X12_plan_b75 f_X12_plan_b85
    rw [qck_ok (i := 2) (by decide), show (2 : Int32).toNatClampNeg = 2 from rfl, e2, if_pos ((nn_le (by omega) (by omega)).mpr (by omega))]
    have hm := fun b => bsl_mem (F := plO s L S) (l := List.range (gH s)) (b := b) rfl
    revert hm
    cases bsl (plO s L S) (List.range (gH s)) with
    | none =>
      intro _
      rw [if_pos (show oI none = -2 from rfl), qup_s]
      rfl
    | some b =>
      intro hm
      have hb := List.mem_range.mp (hm b rfl)
      show qup (if nn b = -2 then _ else _) = some (Sum.inr (if x = 0 then nn b else nn (plO s L S b), h))
      rw [if_neg (nn_nm2 (by omega))]
      by_cases c : x = 0
      · rw [if_pos c, if_pos c, qup_s]
        rfl
      · rw [if_neg c, if_neg c]
        show qup (qbn (m_X12_planOf (nn b) h) _) = _
        rw [r_planOf w hs bo hb, qbn_s, qup_s]
