/-! THE LAND: what the class holds of it -/
def RelL (a : Nat) (s : Sg) (h : qa_M) : Prop :=
  (h.1 a 0 = s 0 0 ∧ h.1 a 1 = s 0 1 ∧ h.1 a 2 = s 0 2 ∧ h.1 a 3 = s 0 3 ∧ h.1 a 4 = s 0 4 ∧ h.1 a 5 = nn (sumN (mny s) (gS s))) ∧
  (h.2.1 a 6 = mkm (thr s) 36 ∧ h.2.1 a 7 = mkm (isW s) 36) ∧
  (∀ i, i < gH s → h.1 (a + 1) i = s 2 i ∧ h.1 (a + 2) i = s 3 i ∧ h.2.1 (a + 3) i = seesM s (hAt s i) (hFar s i)) ∧
  (∀ i, i < gO s → h.2.1 (a + 4) i = roadM s i) ∧
  (∀ i, i < gS s → h.1 (a + 5) i = s 6 i)
theorem tb_ab {x : Int64} {q : Nat} (h : q < 64) : (x &&& q_lshl 1 (nn q) = 0) ↔ tb x q = false := by
  constructor
  · intro e
    have : tb (x &&& q_lshl 1 (nn q)) q = false := by rw [e, tb_zero]
    rw [tb_and, tb_bit h] at this
    simpa using this
  · intro e
    rw [tb_eq0]
    intro k _
    rw [tb_and, tb_bit h]
    by_cases c : k = q
    · subst c; rw [e]; rfl
    · simp [c]
theorem k_hillOn {h : qa_M} {a n q : Nat} (e : h.1 a 2 = nn n) (l : n ≤ 8) : m_X3_hillOn a (nn q) h = some (fstI (fun i => decide (h.1 (a + 1) i = nn q)) n, h) := by
  have hs : ∀ k, k < n → decide (h.1 (a + 1) k = nn q) = false → f_X3_hillOn_b2 a (nn q) (nn k) h = some (.inl (nn q, nn (k + 1), h)) := by
    intro k hk hp
    have hp : ¬ (h.1 (a + 1) k = nn q) := of_decide_eq_false hp
    unfold f_X3_hillOn_b2
    rw [e, if_neg (fun q => by rw [nn_le (by omega) (by omega)] at q; omega), qck_nn (by omega) (by omega), nn_cl (by omega), if_neg hp, qbd_e, nn_add1]
  unfold m_X3_hillOn f_X3_hillOn_b2_loop
  rw [qbd_e]
  rcases first_of (fun i => decide (h.1 (a + 1) i = nn q)) n with ⟨k, hk, p, b⟩ | c
  · rw [fstI_some hk p b]
    refine qlp_for0 (fun k => (nn q, nn k, h)) k (fun j hj => hs j (by omega) (b j hj)) ?_
    have p : h.1 (a + 1) k = nn q := of_decide_eq_true p
    show f_X3_hillOn_b2 a (nn q) (nn k) h = _
    unfold f_X3_hillOn_b2
    rw [e, if_neg (fun q => by rw [nn_le (by omega) (by omega)] at q; omega), qck_nn (by omega) (by omega), nn_cl (by omega), if_pos p, qup_s]
  · rw [fstI_none c]
    refine qlp_for0 (fun k => (nn q, nn k, h)) n (fun j hj => hs j hj (c j hj)) ?_
    show f_X3_hillOn_b2 a (nn q) (nn n) h = _
    unfold f_X3_hillOn_b2
    rw [e, if_pos ((nn_le (by omega) (by omega)).mpr (by omega)), qup_s]
theorem fstI_congr {p q : Nat → Bool} {n : Nat} (h : ∀ k, k < n → p k = q k) : fstI p n = fstI q n := by
  rcases first_of p n with ⟨k, hk, a, b⟩ | c
  · rw [fstI_some hk a b, fstI_some hk (by rw [← h k hk]; exact a) (fun j hj => by rw [← h j (by omega)]; exact b j hj)]
  · rw [fstI_none c, fstI_none (fun j hj => by rw [← h j hj]; exact c j hj)]
theorem nn_qab {a b : Nat} (ha : a < 6) (hb : b < 6) : q_abs (nn b - nn a) = nn (dst a b) := (dst_ok a ha b hb).2.2
theorem k_isClear {h : qa_M} {s : Sg} {a f t m : Nat} (hw : h.2.1 a 7 = mkm (isW s) 36) (ha : f < 36) (hb : t < 36) (hm : m < 2147483648) : m_X3_isClear a (nn f) (nn t) (nn m) h = some (bi (seen s f t m), h) := by
  have hn6 := ds_lt ha hb
  obtain ⟨n, hn⟩ : ∃ n, n = ds f t := ⟨_, rfl⟩
  have hd1 : dst (f % 6) (t % 6) ≤ n := by rw [hn]; unfold ds; omega
  have hd2 : dst (f / 6) (t / 6) ≤ n := by rw [hn]; unfold ds; omega
  have lp : ∀ (m k : Nat), 1 ≤ k → k ≤ 6 → k + m = max n k → f_X3_isClear_b48_loop a (nn f) (nn (t % 6) - nn (f % 6)) (nn (t / 6) - nn (f / 6)) (nn n) (nn k) h = some (bi (alF (fun k => !isW s (pth f t n k)) k m), h) := by
    intro m
    induction m with
    | zero =>
      intro k h1 h6 hk
      unfold f_X3_isClear_b48_loop
      refine qlp_out ?_
      show f_X3_isClear_b48 a _ _ _ _ (nn k) h = _
      unfold f_X3_isClear_b48
      rw [if_pos ((nn_le (by omega) (by omega)).mpr (by omega)), qup_s]
      rfl
    | succ m ih =>
      intro k h1 h6 hk
      have hkn : k < n := by omega
      unfold f_X3_isClear_b48_loop
      obtain ⟨f1, q1, p1⟩ := r_floorDiv (h := h) (show f % 6 < 6 by omega) (show t % 6 < 6 by omega) (show n < 6 by omega) hkn hd1
      obtain ⟨f2, q2, p2⟩ := r_floorDiv (h := h) (show f / 6 < 6 by omega) (show t / 6 < 6 by omega) (show n < 6 by omega) hkn hd2
      have hp := pth_lt ha hb hn hkn
      have st : f_X3_isClear_b48 a (nn f) (nn (t % 6) - nn (f % 6)) (nn (t / 6) - nn (f / 6)) (nn n) (nn k) h = if isW s (pth f t n k) = false then some (.inl (nn f, nn (t % 6) - nn (f % 6), nn (t / 6) - nn (f / 6), nn n, nn (k + 1), h)) else some (.inr (0, h)) := by
        unfold f_X3_isClear_b48
        rw [if_neg (fun q => by rw [nn_le (by omega) (by omega)] at q; omega), nn_r6 (by omega), nn_d6 (by omega), q1, qbn_s, qbd_e, q2, qbn_s, qbd_e, p1, p2]
        unfold m_X2_bit
        rw [qbn_s, show (6 : Int32) = nn 6 from rfl, nn_mul, nn_add, hw]
        rw [show 6 * px (f / 6) (t / 6) n k + px (f % 6) (t % 6) n k = pth f t n k from rfl]
        simp only [tb_ab (show pth f t n k < 64 by omega), tb_mkm (show 36 ≤ 64 by omega), decide_eq_true hp, Bool.true_and, qbd_e, nn_add1, qup_s]
      cases e : isW s (pth f t n k) with
      | false =>
        rw [e, if_pos rfl] at st
        rw [qlp_in st]
        have := ih (k + 1) (by omega) (by omega) (by omega)
        unfold f_X3_isClear_b48_loop at this
        rw [this]
        simp [alF, e]
      | true =>
        rw [e, if_neg (by decide)] at st
        rw [qlp_out st]
        simp [alF, e, bi]
  unfold m_X3_isClear
  rw [nn_r6 (by omega), nn_r6 (by omega), nn_d6 (by omega), nn_d6 (by omega)]
  simp only [qbd_e]
  rw [nn_qab (by omega) (by omega), nn_qab (by omega) (by omega)]
  have h1 := (dst_ok (f % 6) (by omega) (t % 6) (by omega)).1
  have h2 := (dst_ok (f / 6) (by omega) (t / 6) (by omega)).1
  have em : q_max (nn (dst (f % 6) (t % 6))) (nn (dst (f / 6) (t / 6))) = nn n := by
    rw [hn]
    unfold q_max ds
    by_cases c : dst (f % 6) (t % 6) < dst (f / 6) (t / 6)
    · rw [if_pos ((nn_lt (by omega) (by omega)).mpr c), Nat.max_eq_right (by omega)]
    · rw [if_neg (fun q => c ((nn_lt (by omega) (by omega)).mp q)), Nat.max_eq_left (by omega)]
  rw [em]
  unfold seen
  rw [← hn]
  by_cases c : n ≤ m
  · rw [if_pos ((nn_le (by omega) (by omega)).mpr c), decide_eq_true c, Bool.true_and]
    exact lp (n - 1) 1 (by omega) (by omega) (by omega)
  · rw [if_neg (fun q => c ((nn_le (by omega) (by omega)).mp q)), decide_eq_false c]
    rfl
theorem k_view {h : qa_M} {s : Sg} {a f m : Nat} (hi : h.2.1 a 6 = mkm (thr s) 36) (hw : h.2.1 a 7 = mkm (isW s) 36) (ha : f < 36) (hm : m < 2147483648) : m_X3_view a (nn f) (nn m) h = some (seesM s f m, h) := by
  unfold m_X3_view f_X3_view_b5_loop
  simp only [qbd_e]
  refine qlp_for0 (fun k => (nn f, nn m, mkm (fun q => thr s q && seen s f q m) k, nn k, h)) 36 ?_ ?_
  · intro k hk
    show f_X3_view_b5 a _ _ _ (nn k) h = _
    unfold f_X3_view_b5
    rw [if_neg (fun q => by rw [show (36 : Int32) = nn 36 from rfl, nn_le (by omega) (by omega)] at q; omega), hi, k_isClear hw ha hk hm, qbn_s]
    simp only [tb_g0 (show k < 64 by omega), tb_mkm (show 36 ≤ 64 by omega), decide_eq_true hk, Bool.true_and, bi_e0]
    rcases mb2 (thr s k && seen s f k m) with e | e
    · rw [mkm_t (p := fun q => thr s q && seen s f q m) e]
      rw [Bool.and_eq_true] at e
      rw [e.1, e.2]
      simp [f_X3_view_b44, qbd_e, nn_add1]
    · rw [mkm_f (p := fun q => thr s q && seen s f q m) e]
      rcases mb2 (thr s k) with e1 | e1
      · rw [e1, Bool.true_and] at e
        rw [e1, e]
        simp [f_X3_view_b44, qbd_e, nn_add1]
      · rw [e1]
        simp [f_X3_view_b44, qbd_e, nn_add1]
  · show f_X3_view_b5 a _ _ _ (nn 36) h = _
    unfold f_X3_view_b5
    rw [if_pos (by decide), qup_s]
    rfl
theorem k_hillsThatSee {h : qa_M} {s : Sg} (w : WF s) (r : RelL 4 s h) {q : Nat} (hq : q < 36) (ht : thr s q = true) : m_X3_hillsThatSee (nn q) h = some (nn (cnt (fun i => seen s (hAt s i) q (hFar s i)) (gH s)), h) := by
  have e : h.1 4 2 = nn (gH s) := r.1.2.2.1.trans w.h.1
  have l := w.h.2
  unfold m_X3_hillsThatSee f_X3_hillsThatSee_b4_loop
  simp only [qbd_e]
  refine qlp_for0 (fun k => (nn q, nn (cnt (fun i => seen s (hAt s i) q (hFar s i)) k), nn k, h)) (gH s) ?_ ?_
  · intro k hk
    show f_X3_hillsThatSee_b4 (nn q) _ (nn k) h = _
    unfold f_X3_hillsThatSee_b4
    rw [e, if_neg (fun q => by rw [nn_le (by omega) (by omega)] at q; omega), qck_nn (by omega) (by omega), nn_cl (by omega), (r.2.2.1 k hk).2.2, tb_g32 (by omega), seesM, tb_mkm (by omega), decide_eq_true hq, Bool.true_and, ht, Bool.true_and, qbd_e, nn_add, qbd_e, nn_add1]
    rfl
  · show f_X3_hillsThatSee_b4 _ _ (nn (gH s)) h = _
    unfold f_X3_hillsThatSee_b4
    rw [e, if_pos ((nn_le (by omega) (by omega)).mpr (by omega)), qup_s]
theorem k_roadsOf {h : qa_M} {s : Sg} (w : WF s) (r : RelL 4 s h) {q : Nat} (hq : q < 36) : m_X3_roadsOf (nn q) h = some (nn (cnt (fun i => onR s i q) (gO s)), h) := by
  have e : h.1 4 3 = nn (gO s) := r.1.2.2.2.1.trans w.o.1
  have l := w.o.2
  unfold m_X3_roadsOf f_X3_roadsOf_b4_loop
  simp only [qbd_e]
  refine qlp_for0 (fun k => (nn q, nn (cnt (fun i => onR s i q) k), nn k, h)) (gO s) ?_ ?_
  · intro k hk
    show f_X3_roadsOf_b4 (nn q) _ (nn k) h = _
    unfold f_X3_roadsOf_b4
    rw [e, if_neg (fun q => by rw [nn_le (by omega) (by omega)] at q; omega), qck_nn (by omega) (by omega), nn_cl (by omega), r.2.2.2.1 k hk, tb_g32 (by omega), roadM, tb_mkm (by omega), decide_eq_true hq, Bool.true_and, qbd_e, nn_add, qbd_e, nn_add1]
    rfl
  · show f_X3_roadsOf_b4 _ _ (nn (gO s)) h = _
    unfold f_X3_roadsOf_b4
    rw [e, if_pos ((nn_le (by omega) (by omega)).mpr (by omega)), qup_s]
/-! what is beside -/
theorem tb_c1 : ∀ j, j < 64 → tb (-34905131041) j = !(decide (j < 36) && decide (j % 6 = 5)) := by decide +kernel
theorem tb_c2 : ∀ j, j < 64 → tb (-1090785346) j = !(decide (j < 36) && decide (j % 6 = 0)) := by decide +kernel
theorem tb_c3 : ∀ j, j < 64 → tb 68719476735 j = decide (j < 36) := by decide +kernel
def grw (x : Int64) : Int64 := ((((x ||| (q_lshl (x &&& (-34905131041 : Int64)) (1 : Int32))) ||| (q_lushr (x &&& (-1090785346 : Int64)) (1 : Int32))) ||| (q_lshl ((x ||| (q_lshl (x &&& (-34905131041 : Int64)) (1 : Int32))) ||| (q_lushr (x &&& (-1090785346 : Int64)) (1 : Int32))) (6 : Int32))) ||| (q_lushr ((x ||| (q_lshl (x &&& (-34905131041 : Int64)) (1 : Int32))) ||| (q_lushr (x &&& (-1090785346 : Int64)) (1 : Int32))) (6 : Int32))) &&& (68719476735 : Int64)
theorem k_grow {x : Int64} {h : qa_M} : m_X2_grow x h = some (grw x, h) := rfl
theorem tb_grw {x : Int64} (hx : ∀ k, 36 ≤ k → tb x k = false) (k : Nat) : tb (grw x) k = true ↔ k < 36 ∧ ∃ o, o < 36 ∧ tb x o = true ∧ ds o k ≤ 1 := by
  have hw : ∀ k, k < 64 → (tb ((x ||| (q_lshl (x &&& (-34905131041 : Int64)) (nn 1))) ||| (q_lushr (x &&& (-1090785346 : Int64)) (nn 1))) k = true ↔ tb x k = true ∨ (1 ≤ k ∧ tb x (k - 1) = true ∧ ¬ (k - 1) % 6 = 5) ∨ (tb x (k + 1) = true ∧ ¬ (k + 1) % 6 = 0)) := by
    intro k hk
    rw [tb_or, tb_or, tb_shl (by omega), tb_ushr (by omega), tb_and, tb_and, tb_c1 (k - 1) (by omega)]
    have h36 : ∀ j, tb x j = true → j < 36 := by
      intro j hj
      rcases Nat.lt_or_ge j 36 with a | a
      · exact a
      · rw [hx j a] at hj; cases hj
    simp only [Bool.or_eq_true, Bool.and_eq_true, decide_eq_true_eq, Bool.not_eq_true', Bool.and_eq_false_iff, decide_eq_false_iff_not]
    constructor
    · rintro ((a | a) | a)
      · exact .inl a
      · have := h36 _ a.2.1
        exact .inr (.inl ⟨a.1.1, a.2.1, by omega⟩)
      · have := h36 _ a.1
        have c := tb_c2 (k + 1) (by omega)
        rw [a.2, decide_eq_true this, Bool.true_and] at c
        refine .inr (.inr ⟨a.1, fun q => ?_⟩)
        rw [decide_eq_true q] at c
        cases c
    · rintro (a | ⟨a, b, c⟩ | ⟨a, b⟩)
      · exact .inl (.inl a)
      · exact .inl (.inr ⟨⟨a, hk⟩, b, by omega⟩)
      · have := h36 _ a
        have c := tb_c2 (k + 1) (by omega)
        rw [decide_eq_false b, Bool.and_false] at c
        exact .inr ⟨a, c⟩
  have h36 : ∀ j, tb x j = true → j < 36 := by
    intro j hj
    rcases Nat.lt_or_ge j 36 with a | a
    · exact a
    · rw [hx j a] at hj; cases hj
  rcases Nat.lt_or_ge k 36 with hk | hk
  · unfold grw
    rw [show (1 : Int32) = nn 1 from rfl, show (6 : Int32) = nn 6 from rfl]
    rw [tb_and, tb_c3 k (by omega), decide_eq_true hk, Bool.and_true, tb_or, tb_or, tb_shl (by omega), tb_ushr (by omega)]
    simp only [Bool.or_eq_true, Bool.and_eq_true, decide_eq_true_eq]
    rw [hw k (by omega), hw (k - 6) (by omega), hw (k + 6) (by omega)]
    constructor
    · intro q
      refine ⟨hk, ?_⟩
      rcases q with ((a | ⟨a, b, c⟩ | ⟨a, b⟩) | ⟨d, a | ⟨a, b, c⟩ | ⟨a, b⟩⟩) | (a | ⟨a, b, c⟩ | ⟨a, b⟩)
      · exact ⟨_, h36 _ a, a, by unfold ds dst; omega⟩
      · exact ⟨_, h36 _ b, b, by unfold ds dst; omega⟩
      · exact ⟨_, h36 _ a, a, by unfold ds dst; omega⟩
      · exact ⟨_, h36 _ a, a, by unfold ds dst; omega⟩
      · exact ⟨_, h36 _ b, b, by unfold ds dst; omega⟩
      · exact ⟨_, h36 _ a, a, by unfold ds dst; omega⟩
      · exact ⟨_, h36 _ a, a, by unfold ds dst; omega⟩
      · exact ⟨_, h36 _ b, b, by unfold ds dst; omega⟩
      · exact ⟨_, h36 _ a, a, by unfold ds dst; omega⟩
    · rintro ⟨-, o, ho, t, d⟩
      unfold ds dst at d
      have cs : (o = k ∨ (o + 1 = k ∧ o % 6 ≠ 5) ∨ (o = k + 1 ∧ o % 6 ≠ 0)) ∨ (o + 6 = k ∨ (o + 7 = k ∧ o % 6 ≠ 5) ∨ (o + 5 = k ∧ o % 6 ≠ 0)) ∨ (o = k + 6 ∨ (o = k + 5 ∧ o % 6 ≠ 5) ∨ (o = k + 7 ∧ o % 6 ≠ 0)) := by omega
      rcases cs with (e | ⟨e, c⟩ | ⟨e, c⟩) | (e | ⟨e, c⟩ | ⟨e, c⟩) | (e | ⟨e, c⟩ | ⟨e, c⟩)
      · rw [e] at t; exact .inl (.inl (.inl t))
      · rw [show o = k - 1 by omega] at t c; exact .inl (.inl (.inr (.inl ⟨by omega, t, c⟩)))
      · rw [e] at t c; exact .inl (.inl (.inr (.inr ⟨t, c⟩)))
      · rw [show o = k - 6 by omega] at t; exact .inl (.inr ⟨by omega, .inl t⟩)
      · rw [show o = k - 6 - 1 by omega] at t c; exact .inl (.inr ⟨by omega, .inr (.inl ⟨by omega, t, c⟩)⟩)
      · rw [show o = k - 6 + 1 by omega] at t c; exact .inl (.inr ⟨by omega, .inr (.inr ⟨t, c⟩)⟩)
      · rw [e] at t; exact .inr (.inl t)
      · rw [show o = k + 6 - 1 by omega] at t c; exact .inr (.inr (.inl ⟨by omega, t, c⟩))
      · rw [e] at t c; exact .inr (.inr (.inr ⟨t, c⟩))
  · constructor
    · intro q
      unfold grw at q
      rw [tb_and] at q
      rcases Nat.lt_or_ge k 64 with h6 | h6
      · rw [tb_c3 k h6, decide_eq_false (by omega), Bool.and_false] at q
        cases q
      · rw [tb_ge (x := 68719476735) h6, Bool.and_false] at q
        cases q
    · rintro ⟨a, -⟩; omega
theorem cnt_range (p : Nat → Bool) : ∀ n, (List.range n).countP p = cnt p n
  | 0 => rfl
  | n + 1 => by
    rw [List.range_succ, List.countP_append, cnt_range p n]
    show _ = cnt p n + (if p n = true then 1 else 0)
    simp [List.countP_cons]
theorem cnt_more {p : Nat → Bool} {n : Nat} (h : ∀ k, n ≤ k → p k = false) : ∀ m, cnt p (n + m) = cnt p n
  | 0 => rfl
  | m + 1 => by rw [show n + (m + 1) = (n + m) + 1 by omega, cnt_f (h _ (by omega)), cnt_more h m]
theorem bc_cnt {x : Int64} (h : ∀ k, 36 ≤ k → tb x k = false) : bc x = cnt (tb x) 36 := by
  unfold bc
  rw [cnt_range, show 64 = 36 + 28 from rfl, cnt_more h]
theorem k_woodsBeside {h : qa_M} {s : Sg} (w : WF s) (r : RelL 4 s h) {q : Nat} (hq : q < 36) : m_X3_woodsBeside (nn q) h = some (nn (cnt (fun o => thr s o && (decide (ds o q = 1) && isW s o)) 36), h) := by
  unfold m_X3_woodsBeside
  rw [qbd_e, k_grow, qbn_s, bc_spec, qbn_s, r.2.1.2]
  congr 3
  have hb : ∀ k, 36 ≤ k → tb (q_lshl 1 (nn q)) k = false := fun k hk => by rw [tb_bit (by omega), decide_eq_false (by omega)]
  rw [bc_cnt (fun k hk => by rw [tb_and, tb_mkm (by omega), decide_eq_false (by omega), Bool.false_and, Bool.and_false])]
  apply cnt_congr
  intro k hk
  rw [tb_and, tb_and, tb_mkm (by omega), decide_eq_true hk, Bool.true_and, tb_not (by omega), tb_bit (by omega)]
  rw [Bool.eq_iff_iff]
  simp only [Bool.and_eq_true, decide_eq_true_eq, Bool.not_eq_true', decide_eq_false_iff_not, tb_grw hb, tb_bit (show q < 64 by omega)]
  constructor
  · rintro ⟨⟨⟨-, o, ho, e, d⟩, n⟩, i⟩
    subst e
    refine ⟨?_, ?_, i⟩
    · unfold isW at i
      rw [Bool.and_eq_true, decide_eq_true_eq] at i
      exact (w.2.2.2.2.1 k hk).2 i.1
    · unfold ds dst at d ⊢
      omega
  · rintro ⟨-, d, i⟩
    refine ⟨⟨⟨hk, q, hq, rfl, ?_⟩, ?_⟩, i⟩
    · unfold ds dst at d ⊢
      omega
    · rintro rfl
      unfold ds dst at d
      omega
theorem k_hillOn4 {h : qa_M} {s : Sg} (w : WF s) (r : RelL 4 s h) {q : Nat} : m_X3_hillOn 4 (nn q) h = some (hon s q, h) := by
  have e : h.1 4 2 = nn (gH s) := r.1.2.2.1.trans w.h.1
  rw [k_hillOn e w.h.2]
  congr 2
  unfold hon
  apply fstI_congr
  intro k hk
  rw [(r.2.2.1 k hk).1]
theorem k_holds {h : qa_M} {s : Sg} (w : WF s) (r : RelL 4 s h) {x y : Int32} : m_X3_holds x y h = some (bi (decide ((0 ≤ x.toInt ∧ x.toInt < gC s) ∧ (0 ≤ y.toInt ∧ y.toInt < gR s))), h) := by
  have e1 : h.1 4 0 = nn (gC s) := r.1.1.trans w.c.1
  have e2 : h.1 4 1 = nn (gR s) := r.1.2.1.trans w.r.1
  have l1 := w.c.2
  have l2 := w.r.2
  unfold m_X3_holds
  rw [e1, r_within, qbn_s, e2, r_within, qbn_s, nn_toInt (by omega), nn_toInt (by omega)]
  simp only [bi_e0, decide_eq_false_iff_not]
  by_cases a : 0 ≤ x.toInt ∧ x.toInt < (gC s : Int)
  · rw [if_neg (fun q => q a)]
    by_cases b : 0 ≤ y.toInt ∧ y.toInt < (gR s : Int)
    · rw [if_neg (fun q => q b), decide_eq_true ⟨a, b⟩]; rfl
    · rw [if_pos b, decide_eq_false (fun q => b q.2)]; rfl
  · rw [if_pos a, decide_eq_false (fun q => a q.1)]; rfl
theorem k_told {h : qa_M} {s : Sg} (w : WF s) (r : RelL 4 s h) : m_X3_told h = some (bi (decide (0 < gC s)), h) := by
  have e1 : h.1 4 0 = nn (gC s) := r.1.1.trans w.c.1
  have l1 := w.c.2
  unfold m_X3_told
  rw [e1, show (0 : Int32) = nn 0 from rfl]
  by_cases c : gC s ≤ 0
  · rw [if_pos ((nn_le (by omega) (by omega)).mpr (by omega)), decide_eq_false (by omega)]; rfl
  · rw [if_neg (fun q => by rw [nn_le (by omega) (by omega)] at q; omega), decide_eq_true (by omega)]; rfl
/-! sees and hidden: the class -/
theorem k_sees {h : qa_M} {s : Sg} (w : WF s) (r : RelL 4 s h) {x : Int32} : m_X11_sees x h = some (if 0 ≤ x.toInt ∧ x.toInt < gH s then seesM s (hAt s (cN x)) (hFar s (cN x)) else -1, h) := by
  have e : h.1 4 2 = nn (gH s) := r.1.2.2.1.trans w.h.1
  have l := w.h.2
  unfold m_X11_sees
  rw [e, r_within, qbn_s, nn_toInt (by omega)]
  simp only [bi_e0, decide_eq_false_iff_not]
  by_cases c : 0 ≤ x.toInt ∧ x.toInt < gH s
  · obtain ⟨k, hk, rfl⟩ := nn_of c.1
    rw [nn_toInt hk] at c
    have hk2 : k < gH s := by omega
    rw [nn_toInt hk, if_neg (fun q => q c), if_pos c, cN_nn hk, qck_nn (by omega) (by omega), nn_cl hk, (r.2.2.1 k hk2).2.2]
  · rw [if_pos c, if_neg c]
theorem k_hidden {h : qa_M} {s : Sg} (w : WF s) (r : RelL 4 s h) : m_X11_hidden h = some (if 0 < gC s then hidM s (gH s) else -1, h) := by
  have e : h.1 4 2 = nn (gH s) := r.1.2.2.1.trans w.h.1
  have l := w.h.2
  unfold m_X11_hidden
  rw [k_told w r, qbn_s]
  simp only [bi_e0, decide_eq_false_iff_not]
  by_cases c : 0 < gC s
  · rw [if_neg (fun q => q c), if_pos c, qbd_e, qbd_e, r.2.1.1]
    unfold f_X11_hidden_b27_loop
    refine qlp_for0 (fun k => (hidM s k, nn k, h)) (gH s) ?_ ?_
    · intro k hk
      show f_X11_hidden_b27 _ (nn k) h = _
      unfold f_X11_hidden_b27
      rw [e, if_neg (fun q => by rw [nn_le (by omega) (by omega)] at q; omega), qck_nn (by omega) (by omega), nn_cl (by omega), (r.2.2.1 k hk).2.2, qbd_e, qbd_e, nn_add1]
      rfl
    · show f_X11_hidden_b27 _ (nn (gH s)) h = _
      unfold f_X11_hidden_b27
      rw [e, if_pos ((nn_le (by omega) (by omega)).mpr (by omega)), qup_s]
  · rw [if_pos c, if_neg c]
