/-! THINGS, AND WHAT IS MADE READY -/
theorem sumN_mono {f : Nat → Nat} {a b : Nat} (h : a ≤ b) : sumN f a ≤ sumN f b := by
  obtain ⟨d, rfl⟩ : ∃ d, b = a + d := ⟨b - a, by omega⟩
  clear h
  induction d with
  | zero => exact Nat.le_refl _
  | succ d ih =>
    refine Nat.le_trans ih ?_
    show sumN f (a + d) ≤ sumN f (a + d) + _
    omega
theorem cnt_cut {p : Nat → Bool} {i : Nat} (h1 : ∀ j, j < i → p j = true) (h2 : ∀ j, i ≤ j → p j = false) : ∀ m, i ≤ m → cnt p m = i := by
  intro m hm
  obtain ⟨d, rfl⟩ : ∃ d, m = i + d := ⟨m - i, by omega⟩
  rw [cnt_more h2]
  clear hm h2
  induction i with
  | zero => rfl
  | succ i ih => rw [cnt_t (h1 i (by omega)), ih (fun j hj => h1 j (by omega))]
/-- how many things, and of which sort each is -/
def nT (s : Sg) : Nat := sumN (mny s) (gS s)
def srt (s : Sg) (t : Nat) : Nat := cnt (fun i => decide (sumN (mny s) (i + 1) ≤ t)) (gS s)
theorem srt_of {s : Sg} {t i : Nat} (hi : i < gS s) (h1 : sumN (mny s) i ≤ t) (h2 : t < sumN (mny s) (i + 1)) : srt s t = i := by
  refine cnt_cut (fun j hj => decide_eq_true ?_) (fun j hj => decide_eq_false ?_) _ (by omega)
  · exact Nat.le_trans (sumN_mono (show j + 1 ≤ i by omega)) h1
  · have := sumN_mono (f := mny s) (show i + 1 ≤ j + 1 by omega)
    omega
theorem srt_ex {s : Sg} {t : Nat} (ht : t < nT s) : ∃ i, i < gS s ∧ sumN (mny s) i ≤ t ∧ t < sumN (mny s) (i + 1) := by
  unfold nT at ht
  generalize gS s = n at ht ⊢
  induction n with
  | zero => simp [sumN] at ht
  | succ n ih =>
    by_cases c : t < sumN (mny s) n
    · obtain ⟨i, a, b⟩ := ih c
      exact ⟨i, by omega, b⟩
    · exact ⟨n, by omega, by omega, ht⟩
theorem srt_lt {s : Sg} {t : Nat} (ht : t < nT s) : srt s t < gS s := by
  obtain ⟨i, a, b, c⟩ := srt_ex ht
  rw [srt_of a b c]
  exact a
theorem srt_mono {s : Sg} {t u : Nat} (h : t ≤ u) : srt s t ≤ srt s u := by
  unfold srt
  generalize gS s = n
  induction n with
  | zero => exact Nat.le_refl _
  | succ n ih =>
    by_cases c : sumN (mny s) (n + 1) ≤ t
    · rw [cnt_t (p := fun i => decide (sumN (mny s) (i + 1) ≤ t)) (decide_eq_true c), cnt_t (p := fun i => decide (sumN (mny s) (i + 1) ≤ u)) (decide_eq_true (Nat.le_trans c h))]
      omega
    · rw [cnt_f (p := fun i => decide (sumN (mny s) (i + 1) ≤ t)) (decide_eq_false c)]
      exact Nat.le_trans ih (cnt_mono (Nat.le_succ n))
theorem WF.n {s : Sg} (w : WF s) : nT s ≤ 4 := w.2.2.2.1.2
def alw (s : Sg) (L : Nat → Lw) (i : Nat) : Int64 := mkm (fun q => thr s q && (!isW s q && !brS s L q i)) 36
def reg (s : Sg) (m : Nat) : Int64 := if cN (s 8 m) = 0 then seesM s (hAt s (cN (s 9 m))) (hFar s (cN (s 9 m))) else roadM s (cN (s 9 m))
/-- the class's search, ready -/
def SP (s : Sg) (L : Nat → Lw) (h : qa_M) : Prop :=
  h.1 22 4 = nn (nT s) ∧ (∀ t, t < nT s → h.1 26 t = nn (srt s t)) ∧ (∀ i, i < 4 → h.2.1 24 i = mkm (fun q => thr s q && brS s L q i) 36) ∧ (∀ a b, a < 4 → b < 4 → h.1 25 (4 * a + b) = nn (frS s L a b))
/-- the reference's -/
def RP (s : Sg) (L : Nat → Lw) (h : qa_M) : Prop :=
  h.1 119 48 = nn (nT s) ∧ (∀ t, t < nT s → h.1 152 t = nn (srt s t)) ∧ (∀ a b, a < nT s → b < nT s → h.1 153 (4 * a + b) = nn (frS s L (srt s a) (srt s b))) ∧ (∀ i, i < gS s → h.2.1 154 i = alw s L i) ∧ (∀ m, m < gT s → h.2.1 155 m = reg s m)
theorem nn_ofN (n : Nat) : nI n = nn n := rfl
theorem k_fill {h : qa_M} {a n : Nat} {v : Int32} (e : ∀ g, (qO g)[a]? = some (.inr (0, n))) (hn : n < 2147483648) : qW (m_J7_fill_53178 a v h) (fun g => ∀ j, j < n → g.1 a j = v) := by
  unfold m_J7_fill_53178
  rw [qbd_e, qal_s (e h), qbd_e, nn_ofN]
  unfold f_J7_fill_53178_b5_loop
  refine qW_for n (fun k t => ∃ g, t = (v, nn k, nn n, g) ∧ ∀ j, j < k → g.1 a j = v) ?_ ?_ (Nat.zero_le n) ⟨h, rfl, fun j hj => by omega⟩
  · rintro k t hk ⟨g, rfl, hg⟩
    show qW (f_J7_fill_53178_b5 a v (nn k) (nn n) g) _
    unfold f_J7_fill_53178_b5
    rw [if_neg (fun q => by rw [nn_le (by omega) (by omega)] at q; omega), qal_s (e g), qck_nn hk (by omega), nn_cl (by omega), qbd_e, qbd_e, nn_add1, qW_some]
    refine ⟨_, rfl, fun j hj => ?_⟩
    by_cases c : j = k
    · subst c; exact wI_at
    · rw [wI_ne (fun q => c q.2)]; exact hg j (by omega)
  · rintro t ⟨g, rfl, hg⟩
    show qW (f_J7_fill_53178_b5 a v (nn n) (nn n) g) _
    unfold f_J7_fill_53178_b5
    rw [if_pos ((nn_le (by omega) (by omega)).mpr (by omega)), qup_s, qW_some]
    exact hg
theorem k_fillJ {h : qa_M} {v : Int64} : qW (m_J7_fill_d0a16 v h) (fun g => ∀ j, j < 4 → g.2.1 24 j = v) := by
  unfold m_J7_fill_d0a16
  rw [qbd_e, qbd_e]
  unfold f_J7_fill_d0a16_b6_loop
  refine qW_for 4 (fun k t => ∃ g, t = (v, nn k, nn 4, g) ∧ ∀ j, j < k → g.2.1 24 j = v) ?_ ?_ (by omega : 0 ≤ 4) ⟨h, rfl, fun j hj => by omega⟩
  · rintro k t hk ⟨g, rfl, hg⟩
    show qW (f_J7_fill_d0a16_b6 v (nn k) (nn 4) g) _
    unfold f_J7_fill_d0a16_b6
    rw [if_neg (fun q => by rw [nn_le (by omega) (by omega)] at q; omega), qck_nn hk (by omega), nn_cl (by omega), qbd_e, qbd_e, nn_add1, qW_some]
    refine ⟨_, rfl, fun j hj => ?_⟩
    by_cases c : j = k
    · subst c; exact wJ_at
    · rw [wJ_ne (fun q => c q.2)]; exact hg j (by omega)
  · rintro t ⟨g, rfl, hg⟩
    show qW (f_J7_fill_d0a16_b6 v (nn 4) (nn 4) g) _
    unfold f_J7_fill_d0a16_b6
    rw [if_pos (by decide), qup_s, qW_some]
    exact hg
/-! apart: the class -/
theorem k_keepApart {h : qa_M} {a b d : Nat} {F : Nat → Nat → Nat} (ha : a < 4) (hb : b < 4) (hd : d < 100) (hF : ∀ x y, x < 4 → y < 4 → F x y < 100 ∧ h.1 25 (4 * x + y) = nn (F x y)) :
    qW (m_X7_keepApart (nn a) (nn b) (nn d) h) (fun g => ∀ x y, x < 4 → y < 4 → g.1 25 (4 * x + y) = nn (if x = a ∧ y = b then max (F x y) d else F x y)) := by
  unfold m_X7_keepApart
  rw [show (4 : Int32) = nn 4 from rfl, nn_mul, nn_add, qbd_e, qck_nn (by omega) (by omega), qck_nn (by omega) (by omega), nn_cl (by omega), qbd_e, qW_some]
  intro x y hx hy
  by_cases c : x = a ∧ y = b
  · obtain ⟨rfl, rfl⟩ := c
    obtain ⟨f1, f2⟩ := hF x y hx hy
    rw [show 4 * x + y = x * 4 + y by omega, wI_at, if_pos ⟨rfl, rfl⟩, show x * 4 + y = 4 * x + y by omega, f2, nn_qmax (by omega) (by omega)]
  · rw [if_neg c, wI_ne (by omega)]
    exact (hF x y hx hy).2
theorem k_aparts {h : qa_M} {L : Lw} {a : Nat} (wl : WL L) (hA : qLaw a) (cl : CL a L h) (h1 : ∀ x y, x < 4 → y < 4 → h.1 25 (4 * x + y) = nn 1) :
    qW (f_X7_prepare_b108_loop a (nn 0) h) (fun g => ∀ x y, x < 4 → y < 4 → g.1 25 (4 * x + y) = nn (frF L x y (lC L))) := by
  have ha : 83 ≤ a := by unfold qLaw at hA; omega
  obtain ⟨n1, n2⟩ := wl.n
  obtain ⟨N, hN⟩ : ∃ N, N = cnt (fun c => !isB L c) (lC L) := ⟨_, rfl⟩
  have hN12 : N ≤ 12 := by have := cnt_le (p := fun c => !isB L c) (n := lC L); omega
  have fb : ∀ x y n, n ≤ lC L → frF L x y n < 100 := fun x y n hn => by
    have := frF_le (L := L) (a := x) (b := y) (n := n) (fun c hc hB => (inr_nn ((wl.2 c (by omega)).2.1 hB).2 (by omega)).2)
    omega
  unfold f_X7_prepare_b108_loop
  refine qW_for N (fun i t => ∃ g c, t = (a, nn i, g) ∧ qfr [(25, 0)] h g ∧ c ≤ lC L ∧ cnt (fun c => !isB L c) c = i ∧ ∀ x y, x < 4 → y < 4 → g.1 25 (4 * x + y) = nn (frF L x y c)) ?_ ?_ (Nat.zero_le N) ⟨h, 0, rfl, qfr_rf, by omega, rfl, h1⟩
  · rintro i t hi ⟨g, c, rfl, fg, hc, hci, hb⟩
    obtain ⟨c2, d1, d2, d3, d4, d5⟩ := cnt_nxt (p := fun c => !isB L c) (m := lC L) (lC L - c) c (by omega) (by rw [hci, ← hN]; exact hi)
    have d3 : isB L c2 = false := by simpa using d3
    obtain ⟨o1, o2, o3⟩ := wl.2 c2 d2
    obtain ⟨p1, p2⟩ := inr_nn o1 (by omega)
    obtain ⟨u1, u2⟩ := inr_nn (o2 d3).1 (by omega)
    obtain ⟨v1, v2⟩ := inr_nn (o2 d3).2 (by omega)
    obtain ⟨m1, m2, m3⟩ := cl.2.2.1 c2 d2 d3
    rw [d4, hci] at m1 m2 m3
    have rI : ∀ b j, b ≠ 25 → g.1 b j = h.1 b j := fun b j q => (fg.1 b j (by unfold inW; simp; omega)).1
    have e0 : g.1 a 0 = nn N := by rw [rI _ _ (by omega), cl.1, hN]
    have hb2 : ∀ x y, x < 4 → y < 4 → frF L x y c2 < 100 ∧ g.1 25 (4 * x + y) = nn (frF L x y c2) := by
      intro x y hx hy
      rw [hb x y hx hy, frF_skip d1 (fun z q1 q2 => by have := d5 z q1 q2; simpa using this)]
      exact ⟨fb _ _ _ hc, rfl⟩
    show qW (f_X7_prepare_b108 a (nn i) g) _
    unfold f_X7_prepare_b108
    rw [qpr_t (show a = 83 ∨ a = 92 ∨ a = 101 ∨ a = 110 from hA), e0, if_neg (fun q => by rw [nn_le (by omega) (by omega)] at q; omega)]
    simp (disch := first | omega | decide) only [qbn_x, qbv_x, qup_x, qbd_x, qck_nn, qck_ok, nn_cl, nn_add1, lx0, lx1, lx2, lx3, lx4, lx5, lx6, lx7, lx8, lx9, lx10, bi_e0, bi_e1]
    rw [rI _ _ (by omega), rI _ _ (by omega), rI _ _ (by omega), m1.trans p1, m2.trans u1, m3.trans v1, qW_bv]
    refine qW_fr (k_keepApart (h := g) (F := fun x y => frF L x y c2) (by omega) (by omega) (by omega) hb2) (fun g1 e => fr_X7_keepApart _ _ _ _ e) ?_
    intro g1 k1 f1
    have f1 : qfr [(25, 0)] g g1 := f1
    have rI1 : ∀ b j, b ≠ 25 → g1.1 b j = h.1 b j := fun b j q => by rw [(f1.1 b j (by unfold inW; simp; omega)).1, rI b j q]
    rw [rI1 _ _ (by omega), rI1 _ _ (by omega), rI1 _ _ (by omega), m1.trans p1, m2.trans u1, m3.trans v1, qW_bv]
    refine qW_fr (k_keepApart (h := g1) (F := fun x y => if x = cN (L 1 c2) ∧ y = cN (L 2 c2) then max (frF L x y c2) (cN (L 3 c2)) else frF L x y c2) (by omega) (by omega) (by omega) (fun x y hx hy => ⟨by
      have := (hb2 x y hx hy).1
      split <;> omega, k1 x y hx hy⟩)) (fun g2 e => fr_X7_keepApart _ _ _ _ e) ?_
    intro g2 k2 f2
    have f2 : qfr [(25, 0)] g1 g2 := f2
    rw [qW_some]
    refine ⟨g2, c2 + 1, rfl, qfr_tr fg (qfr_tr f1 f2), by omega, by rw [cnt_t (by rw [d3]; rfl), d4, hci], fun x y hx hy => ?_⟩
    rw [k2 x y hx hy]
    congr 1
    have ex : ∀ (z : Nat), z < 4 → ((L 1 c2 = nn z) ↔ z = cN (L 1 c2)) := fun z hz => by
      constructor
      · intro q
        rw [q, cN_nn (by omega)]
      · intro q
        rw [q]; exact p1
    have ey : ∀ (z : Nat), z < 4 → ((L 2 c2 = nn z) ↔ z = cN (L 2 c2)) := fun z hz => by
      constructor
      · intro q
        rw [q, cN_nn (by omega)]
      · intro q
        rw [q]; exact u1
    show _ = (if isB L c2 = false ∧ ((L 1 c2 = nn x ∧ L 2 c2 = nn y) ∨ (L 1 c2 = nn y ∧ L 2 c2 = nn x)) then max (frF L x y c2) (cN (L 3 c2)) else frF L x y c2)
    by_cases q1 : x = cN (L 1 c2) ∧ y = cN (L 2 c2)
    · rw [if_pos q1, if_pos (show isB L c2 = false ∧ _ from ⟨d3, .inl ⟨(ex x hx).mpr q1.1, (ey y hy).mpr q1.2⟩⟩)]
      split
      · omega
      · rfl
    · rw [if_neg q1]
      by_cases q2 : x = cN (L 2 c2) ∧ y = cN (L 1 c2)
      · rw [if_pos q2, if_pos (show isB L c2 = false ∧ _ from ⟨d3, .inr ⟨(ex y hy).mpr q2.2, (ey x hx).mpr q2.1⟩⟩)]
      · rw [if_neg q2, if_neg (fun z => z.2.elim (fun z1 => q1 ⟨(ex x hx).mp z1.1, (ey y hy).mp z1.2⟩) (fun z2 => q2 ⟨(ey x hx).mp z2.2, (ex y hy).mp z2.1⟩))]
  · rintro t ⟨g, c, rfl, fg, hc, hci, hb⟩
    have e0 : g.1 a 0 = nn N := by rw [(fg.1 a 0 (by unfold inW; simp; omega)).1, cl.1, hN]
    show qW (f_X7_prepare_b108 a (nn N) g) _
    unfold f_X7_prepare_b108
    rw [qpr_t (show a = 83 ∨ a = 92 ∨ a = 101 ∨ a = 110 from hA), e0, if_pos ((nn_le (by omega) (by omega)).mpr (by omega)), qup_s, qW_some]
    intro x y hx hy
    rw [hb x y hx hy, frF_skip hc (fun z q1 q2 => by have := cnt_end (p := fun c => !isB L c) hc (by rw [hci, hN]) z q1 q2; simpa using this)]
