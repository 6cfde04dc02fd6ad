/-! THE REFERENCE'S NEXT LOOK, AND ITS PLAN -/
theorem mx_ite {h : qa_M} {α : Type} {x y : Nat} {K : Int32 → qa_M → Option α} (hx : x < 2147483648) (hy : y < 2147483648) : (if nn x ≤ nn y then K (nn y) h else K (nn x) h) = K (nn (max y x)) h := by
  by_cases c : x ≤ y
  · rw [if_pos ((nn_le hx hy).mpr c), Nat.max_eq_left c]
  · rw [if_neg (fun q => c ((nn_le hx hy).mp q)), Nat.max_eq_right (by omega)]
theorem r_worstThen {h : qa_M} {i a j : Nat} {f : Nat → Nat} (hi : i < 8) (ha : a < 16) (hj : j < 8) (hf : ∀ c, f c ≤ 1679616) (hc : ∀ c, c < 16 → h.1 159 (ix i a j c) = nn (f c)) : m_X12_worstThen (nn i) (nn a) (nn j) h = some (nn (mxN f 16), h) := by
  unfold m_X12_worstThen f_X12_worstThen_b6_loop
  rw [qbd_e, qbd_e]
  refine qlp_for0 (fun k => (nn i, nn a, nn j, nn (mxN f k), nn k, h)) 16 ?_ ?_
  · intro k hk
    have h1 := mxN_le hf k
    have h2 := hf k
    have il := ix_lt hi ha hj hk
    show f_X12_worstThen_b6 (nn i) (nn a) (nn j) (nn _) (nn k) h = _
    unfold f_X12_worstThen_b6
    rw [if_neg (by rw [show (16 : Int32) = nn 16 from rfl, nn_le (by omega) (by omega)]; omega), r_cell, qbn_s, qck_nn (by omega) (by omega), nn_cl (by omega), hc k hk, r_cell, qbn_s, qck_nn (by omega) (by omega), nn_cl (by omega), hc k hk]
    rw [mx_ite (K := fun v h => f_X12_worstThen_b49 (nn i) (nn a) (nn j) (nn k) v h) (by omega) (by omega)]
    unfold f_X12_worstThen_b49
    rw [qbd_e, qbd_e, nn_add1]
    rfl
  · show f_X12_worstThen_b6 (nn i) (nn a) (nn j) (nn _) (nn 16) h = _
    unfold f_X12_worstThen_b6
    rw [if_pos (by decide), qup_s]
theorem r_worstOf {h : qa_M} {i : Nat} {f : Nat → Nat} (hi : i < 8) (hf : ∀ c, f c ≤ 1679616) (hc : ∀ c, c < 16 → h.1 159 (ix i c i c) = nn (f c)) : m_X12_worstOf (nn i) h = some (nn (mxN f 16), h) := by
  unfold m_X12_worstOf f_X12_worstOf_b4_loop
  rw [qbd_e, qbd_e]
  refine qlp_for0 (fun k => (nn i, nn (mxN f k), nn k, h)) 16 ?_ ?_
  · intro k hk
    have h1 := mxN_le hf k
    have h2 := hf k
    have il := ix_lt hi hk hi hk
    show f_X12_worstOf_b4 (nn i) (nn _) (nn k) h = _
    unfold f_X12_worstOf_b4
    rw [if_neg (by rw [show (16 : Int32) = nn 16 from rfl, nn_le (by omega) (by omega)]; omega), r_cell, qbn_s, qck_nn (by omega) (by omega), nn_cl (by omega), hc k hk, r_cell, qbn_s, qck_nn (by omega) (by omega), nn_cl (by omega), hc k hk]
    rw [mx_ite (K := fun v h => f_X12_worstOf_b42 (nn i) (nn k) v h) (by omega) (by omega)]
    unfold f_X12_worstOf_b42
    rw [qbd_e, qbd_e, nn_add1]
    rfl
  · show f_X12_worstOf_b4 (nn i) (nn _) (nn 16) h = _
    unfold f_X12_worstOf_b4
    rw [if_pos (by decide), qup_s]
/-- an answer: which, or how many -/
def nxA (x : Int32) (F : Nat → Nat) (o : Option Nat) : Int32 := match o with
  | none => -2
  | some b => if x = 0 then nn b else nn (F b)
theorem r_worst0 {s : Sg} {L : Nat → Lw} {S : Nat} {h : qa_M} (w : WF s) (bo : BO s L S h) {i : Nat} (hi : i < gH s) : m_X12_worstOf (nn i) h = some (nn (wst s L S 0 i), h) := by
  have l8 := w.h.2
  exact r_worstOf (by omega) (fun c => Nat.le_trans tlV_le (fit_len w)) (fun c hc => by rw [bo i c i c hi hc hi hc, twV_same])
theorem r_nextLoop {s : Sg} {L : Nat → Lw} {S : Nat} {h : qa_M} {x : Int32} (w : WF s) (hs : sg h = s) (bo : BO s L S h) : f_X12_next_b31_loop x (-2) (nn 0) h = some (nxA x (wst s L S 0) (bsl (wst s L S 0) (List.range (gH s))), h) := by
  have l8 := w.h.2
  have e2 : h.1 120 2 = nn (gH s) := by rw [← hs]; rw [← hs] at w; exact w.h.1
  have wl : ∀ q, wst s L S 0 q < 2147483648 := fun q => by have := wst_le (L := L) (S := S) (m := 0) (q := q) w; omega
  unfold f_X12_next_b31_loop
  refine qlp_for0 (fun k => (x, oI (bsl (wst s L S 0) (List.range k)), nn k, h)) (gH s) ?_ ?_
  · intro k hk
    show f_X12_next_b31 x (oI _) (nn k) h = _
    unfold f_X12_next_b31 f_X12_next_b62 f_X12_next_b68
    rw [qck_ok (i := 2) (by decide), show (2 : Int32).toNatClampNeg = 2 from rfl, e2, if_neg (fun q => by rw [nn_le (by omega) (by omega)] at q; omega), List.range_succ, bsl_snoc]
    have hm := fun b => bsl_mem (F := wst s L S 0) (l := List.range k) (b := b) rfl
    revert hm
    cases bsl (wst s L S 0) (List.range k) with
    | none =>
      intro _
      rw [if_pos (show oI none = -2 from rfl), qbd_e, qbd_e, nn_add1]
      rfl
    | some b =>
      intro hm
      have hb := List.mem_range.mp (hm b rfl)
      show (if nn b = -2 then _ else _) = some (Sum.inl (x, oI (if wst s L S 0 b ≤ wst s L S 0 k then some b else some k), nn (k + 1), h))
      rw [if_neg (nn_nm2 (by omega)), r_worst0 w bo hk, qbn_s]
      show qbn (m_X12_worstOf (nn b) h) _ = _
      rw [r_worst0 w bo (by omega), qbn_s]
      by_cases c : wst s L S 0 b ≤ wst s L S 0 k
      · rw [if_pos ((nn_le (wl _) (wl _)).mpr c), if_pos c, qbd_e, qbd_e, nn_add1]
      · rw [if_neg (fun q => c ((nn_le (wl _) (wl _)).mp q)), if_neg c, qbd_e, qbd_e, nn_add1]
        rfl
  · show f_X12_next_b31 x (oI _) (nn (gH s)) h = _
    unfold f_X12_next_b31 f_X12_next_b75 f_X12_next_b85
    rw [qck_ok (i := 2) (by decide), show (2 : Int32).toNatClampNeg = 2 from rfl, e2, if_pos ((nn_le (by omega) (by omega)).mpr (by omega))]
    have hm := fun b => bsl_mem (F := wst s L S 0) (l := List.range (gH s)) (b := b) rfl
    revert hm
    cases bsl (wst s L S 0) (List.range (gH s)) with
    | none =>
      intro _
      rw [if_pos (show oI none = -2 from rfl), qup_s]
      rfl
    | some b =>
      intro hm
      have hb := List.mem_range.mp (hm b rfl)
      show qup (if nn b = -2 then _ else _) = some (Sum.inr (if x = 0 then nn b else nn (wst s L S 0 b), h))
      rw [if_neg (nn_nm2 (by omega))]
      by_cases c : x = 0
      · rw [if_pos c, if_pos c, qup_s]
        rfl
      · rw [if_neg c, if_neg c]
        show qup (qbn (m_X12_worstOf (nn b) h) _) = _
        rw [r_worst0 w bo hb, qbn_s, qup_s]
/-! two looks -/
def wT (s : Sg) (L : Nat → Lw) (S i a j : Nat) : Nat := mxN (twV s (vw s 0 i) (vw s 0 j) (fitL s L S) a) 16
theorem wT_le {s : Sg} {L : Nat → Lw} {S i a j : Nat} (w : WF s) : wT s L S i a j ≤ 1679616 := mxN_le (fun _ => Nat.le_trans twV_le (fit_len w)) 16
theorem r_then0 {s : Sg} {L : Nat → Lw} {S : Nat} {h : qa_M} (w : WF s) (bo : BO s L S h) {i a j : Nat} (hi : i < gH s) (ha : a < 16) (hj : j < gH s) : m_X12_worstThen (nn i) (nn a) (nn j) h = some (nn (wT s L S i a j), h) := by
  have l8 := w.h.2
  exact r_worstThen (by omega) ha (by omega) (fun c => Nat.le_trans twV_le (fit_len w)) (fun c hc => bo i a j c hi ha hj hc)
def thL (s : Sg) (i n : Nat) : List Nat := (List.range n).filter (fun j => decide (j ≠ i ∨ gH s = 1))
theorem thL_t {s : Sg} {i n : Nat} (h : n ≠ i ∨ gH s = 1) : thL s i (n + 1) = thL s i n ++ [n] := by
  unfold thL
  rw [List.range_succ, List.filter_append]
  simp only [List.filter_cons, List.filter_nil, decide_eq_true_eq, if_pos h]
theorem thL_f {s : Sg} {i n : Nat} (h : ¬ (n ≠ i ∨ gH s = 1)) : thL s i (n + 1) = thL s i n := by
  unfold thL
  rw [List.range_succ, List.filter_append]
  simp only [List.filter_cons, List.filter_nil, decide_eq_true_eq, if_neg h, List.append_nil]
theorem thL_lt {s : Sg} {i n b : Nat} (h : b ∈ thL s i n) : b < n := by
  unfold thL at h
  rw [List.mem_filter, List.mem_range] at h
  exact h.1
/-- which, or none -/
def oM : Option Nat → Int32
  | none => -1
  | some b => nn b
theorem r_thenOf {s : Sg} {L : Nat → Lw} {S : Nat} {h : qa_M} (w : WF s) (hs : sg h = s) (bo : BO s L S h) {i a : Nat} (hi : i < gH s) (ha : a < 16) : m_X12_thenOf (nn i) (nn a) h = some (oM (bsl (wT s L S i a) (thL s i (gH s))), h) := by
  have l8 := w.h.2
  have e2 : h.1 120 2 = nn (gH s) := by rw [← hs]; rw [← hs] at w; exact w.h.1
  have wl : ∀ q, wT s L S i a q < 2147483648 := fun q => by have := wT_le (L := L) (S := S) (i := i) (a := a) (j := q) w; omega
  unfold m_X12_thenOf f_X12_thenOf_b5_loop
  rw [qbd_e, qbd_e]
  refine qlp_for0 (fun k => (nn i, nn a, oM (bsl (wT s L S i a) (thL s i k)), nn k, h)) (gH s) ?_ ?_
  · intro k hk
    show f_X12_thenOf_b5 (nn i) (nn a) (oM _) (nn k) h = _
    have yes : (k ≠ i ∨ gH s = 1) → f_X12_thenOf_b32 (nn i) (nn a) (oM (bsl (wT s L S i a) (thL s i k))) (nn k) h = some (.inl (nn i, nn a, oM (bsl (wT s L S i a) (thL s i (k + 1))), nn (k + 1), h)) := by
      intro ok
      unfold f_X12_thenOf_b32 f_X12_thenOf_b37 f_X12_thenOf_b67 f_X12_thenOf_b72 f_X12_thenOf_b73
      rw [qbd_e, if_neg (show ¬ (1 : Int32) = 0 by decide), thL_t ok, bsl_snoc]
      have hm := fun b => bsl_mem (F := wT s L S i a) (l := thL s i k) (b := b) rfl
      revert hm
      cases bsl (wT s L S i a) (thL s i k) with
      | none =>
        intro _
        rw [if_pos (show oM none = -1 from rfl), qbd_e, qbd_e, nn_add1]
        rfl
      | some b =>
        intro hm
        have hb := thL_lt (hm b rfl)
        show (if nn b = -1 then _ else _) = some (Sum.inl (nn i, nn a, oM (if wT s L S i a b ≤ wT s L S i a k then some b else some k), nn (k + 1), h))
        rw [if_neg (nn_nm1 (by omega)), r_then0 w bo hi ha hk, qbn_s]
        show qbn (m_X12_worstThen (nn i) (nn a) (nn b) h) _ = _
        rw [r_then0 w bo hi ha (by omega), qbn_s]
        by_cases c : wT s L S i a b ≤ wT s L S i a k
        · rw [if_pos ((nn_le (wl _) (wl _)).mpr c), if_pos c, qbd_e, qbd_e, nn_add1]
        · rw [if_neg (fun q => c ((nn_le (wl _) (wl _)).mp q)), if_neg c, qbd_e, qbd_e, nn_add1]
          rfl
    unfold f_X12_thenOf_b5
    rw [qck_ok (i := 2) (by decide), qck_ok (i := 2) (by decide), show (2 : Int32).toNatClampNeg = 2 from rfl, e2, if_neg (fun q => by rw [nn_le (by omega) (by omega)] at q; omega)]
    by_cases c : k = i
    · rw [if_pos (by rw [c])]
      by_cases c1 : gH s = 1
      · rw [if_pos (by rw [c1]; rfl)]
        exact yes (.inr c1)
      · rw [if_neg (by rw [show (1 : Int32) = nn 1 from rfl, nn_eq (by omega) (by omega)]; exact c1)]
        unfold f_X12_thenOf_b37 f_X12_thenOf_b72 f_X12_thenOf_b73
        rw [qbd_e, if_pos rfl, qbd_e, qbd_e, nn_add1, thL_f (by omega)]
    · rw [if_neg (by rw [nn_eq (by omega) (by omega)]; exact c)]
      exact yes (.inl c)
  · show f_X12_thenOf_b5 (nn i) (nn a) (oM _) (nn (gH s)) h = _
    unfold f_X12_thenOf_b5
    rw [qck_ok (i := 2) (by decide), show (2 : Int32).toNatClampNeg = 2 from rfl, e2, if_pos ((nn_le (by omega) (by omega)).mpr (by omega)), qup_s]
