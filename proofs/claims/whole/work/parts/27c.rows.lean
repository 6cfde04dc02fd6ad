/-! ROWS, DIVISORS -/
theorem countP_snoc {α : Type} {p : α → Bool} {D : List α} {l : α} : (D ++ [l]).countP p = D.countP p + (if p l then 1 else 0) := by
  rw [List.countP_append, List.countP_cons]
  simp
def rowP (s : Sg) (o y t x : Nat) : Bool := decide (srt s t = o) && decide (x / 6 = y)
theorem r_rowsLoop {s : Sg} {L : Nat → Lw} {S : Nat} {h : qa_M} (w : WF s) (wl : ∀ k, k + 1 = gL s → WL (L k)) (hs : sg h = s) (hS : S < 2 ^ gT s) (gs : GyS s L S (fitL s L S) h) {o y n : Nat} (ho : o < 4) (hy : y < 6) (hn5 : n < 5) :
    qW (f_X12_rows_b56_loop (nn S) (nn o) (nn y) (nn n) (nn 0) h) (fun z => z.1 = nn ((fitL s L S).countP (fun l => decide (cP (rowP s o y) l = n)))) := by
  have hn := w.n
  have l4 := w.s.2
  unfold f_X12_rows_b56_loop
  refine qW_lst (fun rem t => ∃ g D, t = (nn S, nn o, nn y, nn n, nn (D.countP (fun l => decide (cP (rowP s o y) l = n))), g) ∧ GyS s L S rem g ∧ sg g = s ∧ D ++ rem = fitL s L S) ?_ ?_ _ _ ⟨h, [], rfl, gs, hs, rfl⟩
  · rintro l rem t ⟨g, D, rfl, gs, hs, hD⟩
    show qW (f_X12_rows_b56 (nn S) (nn o) (nn y) (nn n) (nn _) g) _
    unfold f_X12_rows_b56
    rw [qW_bn]
    refine qW_fr (r_goesTo w wl hs hS gs) (fun z e => fr_X12_goesTo _ _ e) ?_
    rintro ⟨v, g2⟩ hz fg
    have fg : qfr [(119, 50), (151, 0)] g g2 := fg
    dsimp only at hz ⊢
    rcases hz with ⟨-, e⟩ | ⟨rfl, l2, F2, e, q1, q2, q3, q4⟩
    · cases e
    · cases e
      obtain ⟨R, lsR, -⟩ := id q1
      have rp := lsR.1
      have h36 := good_lt q4
      rw [if_neg (by decide), qbd_e, qbd_e]
      generalize hC : D.countP (fun l => decide (cP (rowP s o y) l = n)) = C
      unfold f_X12_rows_b70_loop
      refine qW_for (nT s) (fun k t => t = (nn S, nn o, nn y, nn n, nn C, nn (cnt (fun u => rowP s o y u (cN (g2.1 151 u))) k), nn k, g2)) ?_ ?_ (Nat.zero_le _) rfl
      · rintro k t hk rfl
        obtain ⟨a, ha, ea⟩ := stk_at q3 h36 k (by omega)
        have sk := srt_lt hk
        have hi : rowP s o y k (cN (g2.1 151 k)) = (decide (srt s k = o) && decide (a / 6 = y)) := by
          unfold rowP
          rw [ea, cN_nn (by omega)]
        show qW (f_X12_rows_b70 (nn S) (nn o) (nn y) (nn n) (nn C) (nn _) (nn k) g2) _
        unfold f_X12_rows_b70 f_X12_rows_b110 f_X12_rows_b111
        rw [rp.1, if_neg (fun q => by rw [nn_le (by omega) (by omega)] at q; omega)]
        simp (disch := first | omega | decide) only [qbn_x, qbv_x, qup_x, qbd_x, qck_nn, qck_ok, nn_cl, nn_add1, lx0, lx1, lx2, lx3, lx4, lx5, lx6, lx7, lx8, lx9, lx10, bi_e0, bi_e1]
        rw [rp.2.1 k hk, ea, nn_d6 (by omega)]
        by_cases c1 : srt s k = o
        · rw [if_pos (by rw [c1])]
          by_cases c2 : a / 6 = y
          · rw [if_pos (by rw [c2]), qW_some]
            show (_, _, _, _, _, _, _, _) = _
            rw [cnt_t (p := fun u => rowP s o y u (cN (g2.1 151 u))) (by rw [hi, decide_eq_true c1, decide_eq_true c2]; rfl)]
          · rw [if_neg (by rw [nn_eq (by omega) (by omega)]; exact c2), qW_some]
            show (_, _, _, _, _, _, _, _) = _
            rw [cnt_f (p := fun u => rowP s o y u (cN (g2.1 151 u))) (by rw [hi, decide_eq_false c2, Bool.and_false]), nn_add0]
        · rw [if_neg (by rw [nn_eq (by omega) (by omega)]; exact c1), qW_some]
          show (_, _, _, _, _, _, _, _) = _
          rw [cnt_f (p := fun u => rowP s o y u (cN (g2.1 151 u))) (by rw [hi, decide_eq_false c1]; rfl), nn_add0]
      · rintro t rfl
        show qW (f_X12_rows_b70 (nn S) (nn o) (nn y) (nn n) (nn C) (nn _) (nn (nT s)) g2) _
        unfold f_X12_rows_b70 f_X12_rows_b120 f_X12_rows_b134
        rw [rp.1, if_pos ((nn_le (by omega) (by omega)).mpr (by omega)), ← q2, cP_stk q3 h36]
        have cl := cP_le (P := rowP s o y) (l := l)
        have fin : ∀ v : Int32, nn C + v = nn ((D ++ [l]).countP (fun l => decide (cP (rowP s o y) l = n))) → ∃ g D, (nn S, nn o, nn y, nn n, nn C + v, g2) = (nn S, nn o, nn y, nn n, nn (List.countP (fun l => decide (cP (rowP s o y) l = n)) D), g) ∧ GyS s L S rem g ∧ sg g = s ∧ D ++ rem = fitL s L S := by
          intro v hv
          rw [hv]
          exact ⟨g2, D ++ [l], rfl, q1, by rw [sg_ly fg, hs], by rw [List.append_assoc, ← hD]; rfl⟩
        by_cases c : cP (rowP s o y) l = n
        · rw [if_pos (by rw [c]), qbd_e, qup_s, qW_some]
          refine fin 1 ?_
          rw [nn_add1, countP_snoc, hC, decide_eq_true c]
          rfl
        · rw [if_neg (by rw [nn_eq (by omega) (by omega)]; exact c), qbd_e, qup_s, qW_some]
          refine fin 0 ?_
          rw [nn_add0, countP_snoc, hC, decide_eq_false c]
          rfl
  · rintro t ⟨g, D, rfl, gs, hs, hD⟩
    show qW (f_X12_rows_b56 (nn S) (nn o) (nn y) (nn n) (nn _) g) _
    unfold f_X12_rows_b56
    rw [qW_bn]
    refine qW_mono (r_goesTo w wl hs hS gs) ?_
    rintro ⟨v, g2⟩ hz
    dsimp only at hz ⊢
    have hD : D = fitL s L S := by simpa using hD
    rcases hz with ⟨rfl, -⟩ | ⟨-, l2, F2, e, -⟩
    · rw [if_pos rfl, qup_s, qW_some, hD]
      rfl
    · cases e
/-! greatest common divisor -/
theorem r_divisor {h : qa_M} : ∀ (b a : Nat), a < 2147483648 → b < 2147483648 → f_X12_divisor_b4_loop (nn b) (nn a) h = some (nn (Nat.gcd b a), h) := by
  intro b
  induction b using Nat.strongRecOn with
  | ind b ih =>
    intro a ha hb
    unfold f_X12_divisor_b4_loop
    rcases Nat.eq_zero_or_pos b with z | z
    · subst z
      refine qlp_out ?_
      show f_X12_divisor_b4 (nn 0) (nn a) h = _
      unfold f_X12_divisor_b4
      rw [if_pos (show nn 0 = 0 from rfl), qup_s, Nat.gcd_zero_left]
    · have nz : ¬ (nn b = 0) := by rw [show (0 : Int32) = nn 0 from rfl, nn_eq (by omega) (by omega)]; omega
      have hl := Nat.mod_lt a z
      rw [qlp_in (s2 := (nn (a % b), nn b, h))]
      · have := ih (a % b) hl b hb (by omega)
        unfold f_X12_divisor_b4_loop at this
        rw [this, Nat.gcd_rec b a]
      · show f_X12_divisor_b4 (nn b) (nn a) h = _
        unfold f_X12_divisor_b4
        rw [if_neg nz, qnz_f nz, nn_rem ha hb]
        rfl
theorem k_divisor {h : qa_M} : ∀ (k i a b : Nat), a < 2147483648 → b < 2 ^ k → b < 2147483648 → i + 2 * k ≤ 63 → f_X11_commonDivisor_b7_loop (nn a) (nn b) (nn i) h = some (nn (Nat.gcd b a), h) := by
  have st0 : ∀ (i a : Nat), i ≤ 63 → f_X11_commonDivisor_b7_loop (nn a) (nn 0) (nn i) h = some (nn (Nat.gcd 0 a), h) := by
    intro i a hi
    unfold f_X11_commonDivisor_b7_loop
    refine qlp_out ?_
    show f_X11_commonDivisor_b7 (nn a) (nn 0) (nn i) h = _
    unfold f_X11_commonDivisor_b7
    rw [if_neg (by rw [show (64 : Int32) = nn 64 from rfl, nn_le (by omega) (by omega)]; omega), if_pos (show nn 0 = 0 from rfl), qup_s, Nat.gcd_zero_left]
  have st1 : ∀ (i a b : Nat), i ≤ 63 → 0 < b → a < 2147483648 → b < 2147483648 → f_X11_commonDivisor_b7_loop (nn a) (nn b) (nn i) h = f_X11_commonDivisor_b7_loop (nn b) (nn (a % b)) (nn (i + 1)) h := by
    intro i a b hi hb ha hb2
    have nz : ¬ (nn b = 0) := by rw [show (0 : Int32) = nn 0 from rfl, nn_eq (by omega) (by omega)]; omega
    unfold f_X11_commonDivisor_b7_loop
    refine qlp_in ?_
    show f_X11_commonDivisor_b7 (nn a) (nn b) (nn i) h = _
    unfold f_X11_commonDivisor_b7
    rw [if_neg (by rw [show (64 : Int32) = nn 64 from rfl, nn_le (by omega) (by omega)]; omega), if_neg nz, qnz_f nz, nn_rem ha hb2]
    simp only [qbd_x]
    rw [nn_add1]
  intro k
  induction k with
  | zero =>
    intro i a b ha hb _ hi
    have : b = 0 := by simpa using hb
    subst this
    exact st0 i a (by omega)
  | succ k ih =>
    intro i a b ha hb hb2 hi
    rcases Nat.eq_zero_or_pos b with z | z
    · subst z; exact st0 i a (by omega)
    · rw [st1 i a b (by omega) z ha hb2, Nat.gcd_rec b a]
      have hl := Nat.mod_lt a z
      rcases Nat.eq_zero_or_pos (a % b) with z2 | z2
      · rw [z2]; exact st0 (i + 1) b (by omega)
      · rw [st1 (i + 1) b (a % b) (by omega) z2 hb2 (by omega), Nat.gcd_rec (a % b) b]
        have hl2 := Nat.mod_lt b z2
        have hh : b % (a % b) ≤ b - a % b := by
          have := Nat.mod_add_div b (a % b)
          have : 1 ≤ b / (a % b) := Nat.div_pos (by omega) z2
          have : (a % b) * 1 ≤ (a % b) * (b / (a % b)) := Nat.mul_le_mul_left _ this
          omega
        have hp : 2 ^ (k + 1) = 2 * 2 ^ k := by rw [Nat.pow_succ, Nat.mul_comm]
        exact ih (i + 1 + 1) (a % b) (b % (a % b)) (by omega) (by omega) (by omega) (by omega)
theorem k_commonDivisor {h : qa_M} {a b : Nat} (ha : a ≤ 1679616) (hb : b ≤ 1679616) : m_X11_commonDivisor (nn a) (nn b) h = some (nn (Nat.gcd b a), h) := by
  unfold m_X11_commonDivisor
  simp only [qbd_e]
  exact k_divisor 21 0 a b (by omega) (by have : (2 : Nat) ^ 21 = 2097152 := rfl; omega) (by omega) (by omega)
theorem r_divisor0 {h : qa_M} {a b : Nat} (ha : a ≤ 1679616) (hb : b ≤ 1679616) : m_X12_divisor (nn a) (nn b) h = some (nn (Nat.gcd a b), h) := by
  unfold m_X12_divisor
  simp only [qbd_e]
  exact r_divisor a b (by omega) (by omega)
