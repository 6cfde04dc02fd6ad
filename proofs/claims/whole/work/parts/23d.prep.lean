/-! THE LAW IN THE CLASS'S SEARCH -/
theorem cnt_nxt {p : Nat → Bool} {m : Nat} : ∀ (d c : Nat), c + d = m → cnt p c < cnt p m → ∃ c2, c ≤ c2 ∧ c2 < m ∧ p c2 = true ∧ cnt p c2 = cnt p c ∧ ∀ x, c ≤ x → x < c2 → p x = false
  | 0, c, h, q => by rw [show m = c by omega] at q; omega
  | d + 1, c, h, q => by
    rcases mb2 (p c) with e | e
    · exact ⟨c, Nat.le_refl _, by omega, e, rfl, fun x a b => by omega⟩
    · obtain ⟨c2, a1, a2, a3, a4, a5⟩ := cnt_nxt (p := p) (m := m) d (c + 1) (by omega) (by rw [cnt_f e]; exact q)
      refine ⟨c2, by omega, a2, a3, by rw [a4, cnt_f e], fun x b1 b2 => ?_⟩
      rcases Nat.eq_or_lt_of_le b1 with r | r
      · rw [← r]; exact e
      · exact a5 x r b2
theorem cnt_mono {p : Nat → Bool} {c m : Nat} (h : c ≤ m) : cnt p c ≤ cnt p m := by
  obtain ⟨d, rfl⟩ : ∃ d, m = c + d := ⟨m - c, by omega⟩
  clear h
  induction d with
  | zero => exact Nat.le_refl _
  | succ d ih =>
    refine Nat.le_trans ih ?_
    show cnt p (c + d) ≤ cnt p (c + d) + _
    omega
theorem cnt_end {p : Nat → Bool} {c m : Nat} (h : c ≤ m) (e : cnt p c = cnt p m) : ∀ x, c ≤ x → x < m → p x = false := by
  intro x h1 h2
  rcases mb2 (p x) with q | q
  · have a := cnt_mono (p := p) h1
    have b := cnt_mono (p := p) (show x + 1 ≤ m from h2)
    rw [cnt_t q] at b
    omega
  · exact q
theorem exN_skip {p : Nat → Bool} {c m : Nat} (h : c ≤ m) (e : ∀ x, c ≤ x → x < m → p x = false) : exN p m = exN p c := by
  obtain ⟨d, rfl⟩ : ∃ d, m = c + d := ⟨m - c, by omega⟩
  clear h
  induction d with
  | zero => rfl
  | succ d ih =>
    show (exN p (c + d) || p (c + d)) = _
    rw [ih (fun x a b => e x a (by omega)), e (c + d) (by omega) (by omega), Bool.or_false]
/-- far from one another by the first clauses -/
def frF (L : Lw) (a b : Nat) : Nat → Nat
  | 0 => 1
  | n + 1 => if isB L n = false ∧ ((L 1 n = nn a ∧ L 2 n = nn b) ∨ (L 1 n = nn b ∧ L 2 n = nn a)) then max (frF L a b n) (cN (L 3 n)) else frF L a b n
theorem frF_skip {L : Lw} {a b c m : Nat} (h : c ≤ m) (e : ∀ x, c ≤ x → x < m → isB L x = true) : frF L a b m = frF L a b c := by
  obtain ⟨d, rfl⟩ : ∃ d, m = c + d := ⟨m - c, by omega⟩
  clear h
  induction d with
  | zero => rfl
  | succ d ih =>
    show (if isB L (c + d) = false ∧ ((L 1 (c + d) = nn a ∧ L 2 (c + d) = nn b) ∨ (L 1 (c + d) = nn b ∧ L 2 (c + d) = nn a)) then max (frF L a b (c + d)) (cN (L 3 (c + d))) else frF L a b (c + d)) = _
    rw [if_neg (by rw [e (c + d) (by omega) (by omega)]; rintro ⟨q, -⟩; cases q), ih (fun x a b => e x a (by omega))]
theorem frF_le {L : Lw} {a b : Nat} : ∀ {n : Nat}, (∀ c, c < n → isB L c = false → cN (L 3 c) ≤ 5) → frF L a b n ≤ 5 ∧ 1 ≤ frF L a b n
  | 0, _ => by simp [frF]
  | n + 1, h => by
    have ih := frF_le (a := a) (b := b) (n := n) (fun c hc => h c (by omega))
    rw [show frF L a b (n + 1) = (if isB L n = false ∧ ((L 1 n = nn a ∧ L 2 n = nn b) ∨ (L 1 n = nn b ∧ L 2 n = nn a)) then max (frF L a b n) (cN (L 3 n)) else frF L a b n) from rfl]
    split
    · rename_i q
      have := h n (by omega) q.1
      omega
    · exact ih
def frS (s : Sg) (L : Nat → Lw) (a b : Nat) : Nat := if gL s = 0 then 1 else frF (L (gL s - 1)) a b (lC (L (gL s - 1)))
theorem r_farOf {h : qa_M} (w : WF (sg h)) (wl : ∀ k, k + 1 = gL (sg h) → WL (lw h k)) {a b : Nat} (ha : a < 4) (hb : b < 4) : m_X12_farOf (nn a) (nn b) h = some (nn (frS (sg h) (lw h) a b), h) := by
  have e6 : h.1 120 6 = nn (gL (sg h)) := w.l.1
  have l6 := w.l.2
  unfold m_X12_farOf frS
  simp (disch := first | omega | decide) only [qbn_x, qbv_x, qup_x, qbd_x, qck_nn, qck_ok, nn_cl, nn_add1, lx0, lx1, lx2, lx3, lx4, lx5, lx6, lx7, lx8, lx9, lx10, bi_e0, bi_e1]
  rw [e6]
  unfold f_X12_farOf_b19_loop
  rcases Nat.eq_zero_or_pos (gL (sg h)) with z | z
  · rw [z, if_pos rfl]
    refine qlp_out ?_
    show f_X12_farOf_b19 (nn a) (nn b) (nn 0 - 1) 1 _ h = _
    unfold f_X12_farOf_b19
    rw [if_pos (by decide), qup_s]
    rfl
  · obtain ⟨k, hk⟩ : ∃ k, gL (sg h) = k + 1 := ⟨gL (sg h) - 1, by omega⟩
    have wk := wl k hk.symm
    obtain ⟨L, hL⟩ : ∃ L, L = lw h k := ⟨_, rfl⟩
    rw [hk, if_neg (by omega), nn_sub1 (by omega), Nat.add_sub_cancel, show (12 : Int32) = nn 12 from rfl, nn_mul, ← hL]
    rw [← hL] at wk
    obtain ⟨n1, n2⟩ := wk.n
    have c0 : h.1 142 k = nn (lC L) := by rw [← n1, hL]; rfl
    refine qlp_for0 (fun j => (nn a, nn b, nn k, nn (frF L a b j), nn (12 * k + j), h)) (lC L) ?_ ?_
    · intro j hj
      obtain ⟨o1, o2, o3⟩ := wk.2 j hj
      obtain ⟨p1, p2⟩ := inr_nn o1 (by omega)
      have bd := frF_le (L := L) (a := a) (b := b) (n := j) (fun c hc hB => (inr_nn ((wk.2 c (by omega)).2.1 hB).2 (by omega)).2)
      have c1 : h.1 143 (12 * k + j) = L 1 j := by rw [hL]; rfl
      have c2 : h.1 144 (12 * k + j) = L 2 j := by rw [hL]; rfl
      have c3 : h.1 145 (12 * k + j) = L 3 j := by rw [hL]; rfl
      have no : ¬ (isB L j = false ∧ ((L 1 j = nn a ∧ L 2 j = nn b) ∨ (L 1 j = nn b ∧ L 2 j = nn a))) → f_X12_farOf_b99 (nn a) (nn b) (nn k) (nn (frF L a b j)) (nn (12 * k + j)) h = some (.inl (nn a, nn b, nn k, nn (frF L a b (j + 1)), nn (12 * k + (j + 1)), h)) := by
        intro q
        rw [show frF L a b (j + 1) = frF L a b j from if_neg q]
        unfold f_X12_farOf_b99 f_X12_farOf_b100 f_X12_farOf_b129 f_X12_farOf_b131
        rw [qbd_e, if_pos rfl, qbd_e, qbd_e, nn_add1]
        rfl
      have yes : (isB L j = false ∧ ((L 1 j = nn a ∧ L 2 j = nn b) ∨ (L 1 j = nn b ∧ L 2 j = nn a))) → f_X12_farOf_b95 (nn a) (nn b) (nn k) (nn (frF L a b j)) (nn (12 * k + j)) h = some (.inl (nn a, nn b, nn k, nn (frF L a b (j + 1)), nn (12 * k + (j + 1)), h)) := by
        intro q
        obtain ⟨d1, d2⟩ := inr_nn (o2 q.1).2 (by omega)
        rw [show frF L a b (j + 1) = max (frF L a b j) (cN (L 3 j)) from if_pos q]
        unfold f_X12_farOf_b95 f_X12_farOf_b100 f_X12_farOf_b129 f_X12_farOf_b131
        simp (disch := first | omega | decide) only [qbn_x, qbv_x, qup_x, qbd_x, qck_nn, qck_ok, nn_cl, nn_add1, lx0, lx1, lx2, lx3, lx4, lx5, lx6, lx7, lx8, lx9, lx10, bi_e0, bi_e1]
        rw [if_neg (by decide), c3.trans d1]
        by_cases cc : cN (L 3 j) ≤ frF L a b j
        · rw [if_pos ((nn_le (by omega) (by omega)).mpr cc), Nat.max_eq_left cc]
          rfl
        · rw [if_neg (fun q => cc ((nn_le (by omega) (by omega)).mp q)), Nat.max_eq_right (by omega)]
          rfl
      show f_X12_farOf_b19 (nn a) (nn b) (nn k) (nn (frF L a b j)) (nn (12 * k + j)) h = _
      unfold f_X12_farOf_b19
      rw [if_neg (nn_ne1 (by omega)), qck_nn (by omega) (by omega), nn_cl (by omega), c0, show (12 : Int32) = nn 12 from rfl, nn_mul, nn_add, if_neg (fun q => by rw [nn_le (by omega) (by omega)] at q; omega)]
      unfold f_X12_farOf_b73
      simp (disch := first | omega | decide) only [qbn_x, qbv_x, qup_x, qbd_x, qck_nn, qck_ok, nn_cl, nn_add1, lx0, lx1, lx2, lx3, lx4, lx5, lx6, lx7, lx8, lx9, lx10, bi_e0, bi_e1]
      rw [c2, c1]
      by_cases cb : L 2 j = -1
      · rw [if_pos cb]
        exact no (fun q => by rw [show isB L j = true from decide_eq_true cb] at q; cases q.1)
      · have hb : isB L j = false := decide_eq_false cb
        rw [if_neg cb]
        by_cases x1 : L 1 j = nn a
        · rw [if_pos x1]
          by_cases x2 : L 2 j = nn b
          · rw [if_pos x2]
            exact yes ⟨hb, .inl ⟨x1, x2⟩⟩
          · rw [if_neg x2]
            by_cases x3 : L 1 j = nn b
            · rw [if_pos x3]
              by_cases x4 : L 2 j = nn a
              · rw [if_pos x4]
                exact yes ⟨hb, .inr ⟨x3, x4⟩⟩
              · rw [if_neg x4]
                exact no (fun q => q.2.elim (fun r => x2 r.2) (fun r => x4 r.2))
            · rw [if_neg x3]
              exact no (fun q => q.2.elim (fun r => x2 r.2) (fun r => x3 r.1))
        · rw [if_neg x1]
          by_cases x3 : L 1 j = nn b
          · rw [if_pos x3]
            by_cases x4 : L 2 j = nn a
            · rw [if_pos x4]
              exact yes ⟨hb, .inr ⟨x3, x4⟩⟩
            · rw [if_neg x4]
              exact no (fun q => q.2.elim (fun r => x1 r.1) (fun r => x4 r.2))
          · rw [if_neg x3]
            exact no (fun q => q.2.elim (fun r => x1 r.1) (fun r => x3 r.1))
    · show f_X12_farOf_b19 (nn a) (nn b) (nn k) (nn (frF L a b (lC L))) (nn (12 * k + lC L)) h = _
      unfold f_X12_farOf_b19
      rw [if_neg (nn_ne1 (by omega)), qck_nn (by omega) (by omega), nn_cl (by omega), c0, show (12 : Int32) = nn 12 from rfl, nn_mul, nn_add, if_pos ((nn_le (by omega) (by omega)).mpr (by omega)), qup_s]
/-! the class: squares barred -/
theorem k_barSquares {h : qa_M} {s : Sg} {L : Lw} {a : Nat} (w : WF s) (wl : WL L) (r : RelL 4 s h) (hA : qLaw a) (cl : CL a L h) (h0 : ∀ i, i < 4 → h.2.1 24 i = 0) :
    qW (m_X5_barSquares a h) (fun g => (∀ i, i < 4 → g.2.1 24 i = mkm (fun q => thr s q && brd L (fI s q) i) 36) ∧ ∀ j, j ≠ cnt (isB L) (lC L) → g.1 (a + 5) j = h.1 (a + 5) j) := by
  have ha : 83 ≤ a := by unfold qLaw at hA; omega
  obtain ⟨n1, n2⟩ := wl.n
  obtain ⟨N, hN⟩ : ∃ N, N = cnt (isB L) (lC L) := ⟨_, rfl⟩
  have hN12 : N ≤ 12 := by have := cnt_le (p := isB L) (n := lC L); omega
  unfold m_X5_barSquares
  rw [cl.2.1, ← hN, qck_nn (by omega) (by omega), nn_cl (by omega)]
  simp only [qbd_e]
  obtain ⟨H, hH⟩ : ∃ H, H = qw_I h (a + 5) N (h.1 a 8) := ⟨_, rfl⟩
  rw [← hH]
  have r1 : RelL 4 s H := by rw [hH]; exact RelL_wI r (.inr (by omega))
  have HI : ∀ b j, b ≠ a + 5 → H.1 b j = h.1 b j := by
    intro b j q
    rw [hH]
    exact wI_ne (fun z => q z.1)
  have H5 : ∀ j, j ≠ N → H.1 (a + 5) j = h.1 (a + 5) j := by
    intro j q
    rw [hH]
    exact wI_ne (fun z => q z.2)
  have HN : H.1 (a + 5) N = h.1 a 8 := by rw [hH]; exact wI_at
  have HJ : ∀ b j, H.2.1 b j = h.2.1 b j := by rw [hH]; intro b j; rfl
  unfold f_X5_barSquares_b15_loop
  refine qW_for 36 (fun k t => ∃ g, t = (nn k, g) ∧ qfr [(24, 0), (a + 7, 0), (a + 8, 0)] H g ∧ ∀ i, i < 4 → g.2.1 24 i = mkm (fun q => thr s q && brd L (fI s q) i) k) ?_ ?_ (by omega : 0 ≤ 36) ⟨H, rfl, qfr_rf, fun i hi => by rw [HJ, h0 i hi]; rfl⟩
  · rintro k t hk ⟨g, rfl, fg, hg⟩
    have rg : RelL 4 s g := RelL_fr r1 (fun b j q1 q2 => (fg.1 b j (by unfold inW; simp; omega)).1) (fun b j q1 q2 => (fg.1 b j (by unfold inW; simp; omega)).2.1)
    show qW (f_X5_barSquares_b15 a (nn k) g) _
    unfold f_X5_barSquares_b15
    rw [if_neg (fun q => by rw [show (36 : Int32) = nn 36 from rfl, nn_le (by omega) (by omega)] at q; omega), rg.2.1.1]
    have tbm : ((q_lushr (mkm (thr s) 36) (nn k)) &&& (1 : Int64) = 0) ↔ thr s k = false := by
      rw [tb_g0 (by omega), tb_mkm (by omega), decide_eq_true hk, Bool.true_and]
    rcases mb2 (thr s k) with tk | tk
    · rw [if_neg (fun q => by rw [tbm, tk] at q; cases q), qW_bv]
      refine qW_fr (k_learn w rg hA hk tk) (fun g1 e => fr_X5_learn _ _ _ e) ?_
      intro g1 hf1 fg1
      have fg1 : qfr [(a + 8, 0)] g g1 := fg1
      have f1 : qfr [(24, 0), (a + 7, 0), (a + 8, 0)] H g1 := qfr_tr fg (qfr_sub (qsub_c (by simp) qsub_nil) fg1)
      rw [qbd_e]
      unfold f_X5_barSquares_b43_loop
      refine qW_for N (fun i t => ∃ g2 c, t = (nn k, nn i, g2) ∧ qfr [(24, 0), (a + 7, 0)] g1 g2 ∧ c ≤ lC L ∧ cnt (isB L) c = i ∧ ∀ j, j < 4 → g2.2.1 24 j = g1.2.1 24 j ||| (if exN (fun c => isB L c && (decide (L 1 c = nn j) && vl L (fI s k) c)) c then q_lshl 1 (nn k) else 0)) ?_ ?_ (Nat.zero_le N) ⟨g1, 0, rfl, qfr_rf, by omega, rfl, fun j hj => by simp [exN, or0]⟩
      · rintro i t hi ⟨g2, c, rfl, f2, hc, hci, hb⟩
        obtain ⟨c2, d1, d2, d3, d4, d5⟩ := cnt_nxt (p := isB L) (m := lC L) (lC L - c) c (by omega) (by rw [hci, ← hN]; exact hi)
        obtain ⟨o1, o2, o3⟩ := wl.2 c2 d2
        obtain ⟨t1, t2, t3, t4, t5, t6⟩ := o3 d3
        obtain ⟨p1, p2⟩ := inr_nn o1 (by omega)
        obtain ⟨u1, u2⟩ := inr_nn t1 (by omega)
        obtain ⟨v1, v2⟩ := inr_nn t2 (by omega)
        obtain ⟨m1, m2, m3, m4⟩ := cl.2.2.2 c2 d2 d3
        rw [d4, hci] at m1 m2 m3
        have rI : ∀ b j, b ≠ 24 → b ≠ a + 7 → b ≠ a + 8 → b ≠ a + 5 → g2.1 b j = h.1 b j := by
          intro b j q1 q2 q3 q4
          rw [(f2.1 b j (by unfold inW; simp; omega)).1, (f1.1 b j (by unfold inW; simp; omega)).1, HI b j q4]
        have r5 : ∀ j, g2.1 (a + 5) j = H.1 (a + 5) j := by
          intro j
          rw [(f2.1 (a + 5) j (by unfold inW; simp; omega)).1, (f1.1 (a + 5) j (by unfold inW; simp; omega)).1]
        have e4 : g2.1 a 4 = nn N := by rw [rI _ _ (by omega) (by omega) (by omega) (by omega), cl.2.1, hN]
        have eT : g2.1 (a + 5) i = nn (lT L c2) := by rw [r5, H5 _ (by omega), m2]; exact u1
        have eE : g2.1 (a + 5) (i + 1) = nn (lE L c2) := by
          rw [r5]
          by_cases q : i + 1 < cnt (isB L) (lC L)
          · rw [if_pos q] at m3
            rw [H5 _ (by omega), m3]; exact v1
          · rw [if_neg q] at m3
            rw [show i + 1 = N by omega, HN, m3]; exact v1
        have e1 : g2.1 (a + 4) i = nn (cN (L 1 c2)) := by rw [rI _ _ (by omega) (by omega) (by omega) (by omega), m1]; exact p1
        have kt := k_isTrue (h := g2) (L := L) (a := a) (e := lT L c2) (n := lE L c2 - lT L c2) (f := fI s k) hA (by unfold lE lT at *; omega) (by
          intro j hj
          rw [(f2.1 (a + 8) j (by unfold inW; simp; omega)).1, hf1 j hj]
          rfl) (by
          intro j hj
          rw [rI _ _ (by omega) (by omega) (by omega) (by omega)]
          exact m4 _ (by omega) (by omega)) t4 t5
        rw [show lT L c2 + (lE L c2 - lT L c2) = lE L c2 by omega] at kt
        have ex1 : ∀ j, exN (fun c => isB L c && (decide (L 1 c = nn j) && vl L (fI s k) c)) c2 = exN (fun c => isB L c && (decide (L 1 c = nn j) && vl L (fI s k) c)) c := fun j => exN_skip d1 (fun x q1 q2 => by rw [d5 x q1 q2]; rfl)
        have fin : ∀ g3 : qa_M, qfr [(24, 0), (a + 7, 0)] g1 g3 → (∀ j, j < 4 → g3.2.1 24 j = g1.2.1 24 j ||| (if exN (fun c => isB L c && (decide (L 1 c = nn j) && vl L (fI s k) c)) (c2 + 1) then q_lshl 1 (nn k) else 0)) → qW (f_X5_barSquares_b90 a (nn k) (nn i) g3) (Sum.elim (fun t => ∃ g2 c, t = (nn k, nn (i + 1), g2) ∧ qfr [(24, 0), (a + 7, 0)] g1 g2 ∧ c ≤ lC L ∧ cnt (isB L) c = i + 1 ∧ ∀ j, j < 4 → g2.2.1 24 j = g1.2.1 24 j ||| (if exN (fun c => isB L c && (decide (L 1 c = nn j) && vl L (fI s k) c)) c then q_lshl 1 (nn k) else 0)) (Sum.elim (fun t => ∃ g, t = (nn (k + 1), g) ∧ qfr [(24, 0), (a + 7, 0), (a + 8, 0)] H g ∧ ∀ i, i < 4 → g.2.1 24 i = mkm (fun q => thr s q && brd L (fI s q) i) (k + 1)) (fun g => (∀ i, i < 4 → g.2.1 24 i = mkm (fun q => thr s q && brd L (fI s q) i) 36) ∧ ∀ j, j ≠ N → g.1 (a + 5) j = h.1 (a + 5) j))) := by
          intro g3 q1 q2
          unfold f_X5_barSquares_b90
          rw [qbd_e, nn_add1, qW_some]
          exact ⟨g3, c2 + 1, rfl, q1, by omega, by rw [cnt_t d3, d4, hci], q2⟩
        show qW (f_X5_barSquares_b43 a (nn k) (nn i) g2) _
        unfold f_X5_barSquares_b43
        rw [e4, if_neg (fun q => by rw [nn_le (by omega) (by omega)] at q; omega)]
        simp (disch := first | omega | decide) only [qbn_x, qbv_x, qup_x, qbd_x, qck_nn, qck_ok, nn_cl, nn_add1, lx0, lx1, lx2, lx3, lx4, lx5, lx6, lx7, lx8, lx9, lx10, bi_e0, bi_e1]
        rw [eT, eE, qW_bn]
        refine qW_fr kt (fun z e => fr_X5_isTrue _ _ _ _ e) ?_
        rintro ⟨v, g3⟩ hv f3
        have f3 : qfr [(a + 7, 0)] g2 g3 := f3
        dsimp only at hv ⊢
        have hvl : vl L (fI s k) c2 = decide (rn L (fI s k) (lT L c2) (lE L c2 - lT L c2) = [1]) := rfl
        rw [← hvl] at hv
        have f13 : qfr [(24, 0), (a + 7, 0)] g1 g3 := qfr_tr f2 (qfr_sub (qsub_c (by simp) qsub_nil) f3)
        have e13 : g3.1 (a + 4) i = nn (cN (L 1 c2)) := by rw [(f3.1 (a + 4) i (by unfold inW; simp)).1, e1]
        have j3 : ∀ j, g3.2.1 24 j = g2.2.1 24 j := fun j => (f3.1 24 j (by unfold inW; simp; omega)).2.1
        have stepx : ∀ j, exN (fun c => isB L c && (decide (L 1 c = nn j) && vl L (fI s k) c)) (c2 + 1) = (exN (fun c => isB L c && (decide (L 1 c = nn j) && vl L (fI s k) c)) c || (decide (L 1 c2 = nn j) && vl L (fI s k) c2)) := by
          intro j
          show (exN _ c2 || (isB L c2 && _)) = _
          rw [ex1 j, d3, Bool.true_and]
        rcases mb2 (vl L (fI s k) c2) with tv | tv
        · rw [hv, tv, if_neg (by decide), e13]
          simp (disch := first | omega | decide) only [qbn_x, qbv_x, qup_x, qbd_x, qck_nn, qck_ok, nn_cl, nn_add1, lx0, lx1, lx2, lx3, lx4, lx5, lx6, lx7, lx8, lx9, lx10, bi_e0, bi_e1]
          refine fin _ (qfr_J0 (a := 24) rfl (by simp) f13) (fun j hj => ?_)
          rw [stepx j, tv, Bool.and_true]
          by_cases cj : j = cN (L 1 c2)
          · subst cj
            rw [wJ_at, j3, hb _ hj, decide_eq_true p1, Bool.or_true, if_pos rfl]
            cases exN (fun c => isB L c && (decide (L 1 c = nn (cN (L 1 c2))) && vl L (fI s k) c)) c
            · rw [if_neg (by decide), or0]
            · rw [if_pos rfl]
              exact tb_ext (fun x _ => by rw [tb_or, tb_or]; cases tb (q_lshl 1 (nn k)) x <;> simp)
          · rw [wJ_ne (fun q => cj q.2), j3, hb _ hj, decide_eq_false (by rw [p1, nn_eq (by omega) (by omega)]; omega), Bool.or_false]
        · rw [hv, tv, if_pos (by decide)]
          refine fin g3 f13 (fun j hj => ?_)
          rw [stepx j, tv, Bool.and_false, Bool.or_false, j3, hb j hj]
      · rintro t ⟨g2, c, rfl, f2, hc, hci, hb⟩
        have e4 : g2.1 a 4 = nn N := by rw [(f2.1 a 4 (by unfold inW; simp; omega)).1, (f1.1 a 4 (by unfold inW; simp; omega)).1, HI _ _ (by omega), cl.2.1, hN]
        show qW (f_X5_barSquares_b43 a (nn k) (nn N) g2) _
        unfold f_X5_barSquares_b43 f_X5_barSquares_b96
        rw [e4, if_pos ((nn_le (by omega) (by omega)).mpr (by omega)), qbd_e, nn_add1, qup_s, qW_some]
        refine ⟨g2, rfl, qfr_tr f1 (qfr_sub (qsub_c (by simp) (qsub_c (by simp) qsub_nil)) f2), fun i hi => ?_⟩
        have g1J : g1.2.1 24 i = g.2.1 24 i := (fg1.1 24 i (by unfold inW; simp; omega)).2.1
        rw [hb i hi, g1J, hg i hi]
        have := exN_skip (p := fun c => isB L c && (decide (L 1 c = nn i) && vl L (fI s k) c)) hc (fun x q1 q2 => by rw [cnt_end (p := isB L) hc (by rw [hci, hN]) x q1 q2]; rfl)
        show mkm (fun q => thr s q && brd L (fI s q) i) k ||| _ = mkm (fun q => thr s q && brd L (fI s q) i) k ||| (if (thr s k && brd L (fI s k) i) = true then q_lshl 1 (nn k) else 0)
        rw [tk, Bool.true_and, ← this]
        rfl
    · rw [if_pos (tbm.mpr tk)]
      unfold f_X5_barSquares_b96
      rw [qbd_e, nn_add1, qW_some]
      exact ⟨g, rfl, fg, fun i hi => by rw [hg i hi, mkm_f (p := fun q => thr s q && brd L (fI s q) i) (by rw [tk]; rfl)]⟩
  · rintro t ⟨g, rfl, fg, hg⟩
    show qW (f_X5_barSquares_b15 a (nn 36) g) _
    unfold f_X5_barSquares_b15
    rw [if_pos (by decide), qup_s, qW_some]
    refine ⟨hg, fun j hj => ?_⟩
    rw [(fg.1 (a + 5) j (by unfold inW; simp; omega)).1, H5 j hj]
