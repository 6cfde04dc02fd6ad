/-! WHAT A LAW BARS -/
def exN (p : Nat → Bool) : Nat → Bool
  | 0 => false
  | n + 1 => exN p n || p n
theorem exN_iff {p : Nat → Bool} : ∀ {n : Nat}, exN p n = true ↔ ∃ c, c < n ∧ p c = true
  | 0 => by simp [exN]
  | n + 1 => by
    show (exN p n || p n) = true ↔ _
    rw [Bool.or_eq_true, exN_iff]
    constructor
    · rintro (⟨c, hc, e⟩ | e)
      · exact ⟨c, by omega, e⟩
      · exact ⟨n, by omega, e⟩
    · rintro ⟨c, hc, e⟩
      rcases Nat.lt_or_ge c n with q | q
      · exact .inl ⟨c, q, e⟩
      · exact .inr (by rw [show n = c by omega]; exact e)
theorem exN_congr {p q : Nat → Bool} {n : Nat} (h : ∀ k, k < n → p k = q k) : exN p n = exN q n := by
  rw [Bool.eq_iff_iff, exN_iff, exN_iff]
  constructor
  · rintro ⟨c, hc, e⟩; exact ⟨c, hc, by rw [← h c hc]; exact e⟩
  · rintro ⟨c, hc, e⟩; exact ⟨c, hc, by rw [h c hc]; exact e⟩
def nmk (p : Nat → Bool) : Nat → Nat
  | 0 => 0
  | n + 1 => nmk p n + (if p n then 2 ^ n else 0)
theorem nmk_lt {p : Nat → Bool} : ∀ {n : Nat}, nmk p n < 2 ^ n
  | 0 => by simp [nmk]
  | n + 1 => by
    have := nmk_lt (p := p) (n := n)
    show nmk p n + (if p n = true then 2 ^ n else 0) < _
    rw [Nat.pow_succ]
    split <;> omega
theorem nmk_tb {p : Nat → Bool} : ∀ {n k : Nat}, (nmk p n).testBit k = (decide (k < n) && p k)
  | 0, k => by simp [nmk]
  | n + 1, k => by
    have hl := nmk_lt (p := p) (n := n)
    show (nmk p n + (if p n = true then 2 ^ n else 0)).testBit k = _
    by_cases c : p n = true
    · rw [if_pos c, Nat.add_comm, ← Nat.mul_one (2 ^ n), Nat.testBit_two_pow_mul_add 1 hl]
      by_cases e : k < n
      · rw [if_pos e, nmk_tb, decide_eq_true e, decide_eq_true (by omega)]
      · rw [if_neg e]
        by_cases e2 : k = n
        · subst e2
          rw [c, decide_eq_true (by omega)]
          simp
        · rw [decide_eq_false (by omega), Bool.false_and]
          obtain ⟨m, hm⟩ : ∃ m, k - n = m + 1 := ⟨k - n - 1, by omega⟩
          rw [hm, Nat.testBit_succ]
          simp
    · rw [if_neg c, Nat.add_zero, nmk_tb]
      by_cases e2 : k = n
      · subst e2
        rw [Bool.not_eq_true] at c
        rw [c, Bool.and_false, Bool.and_false]
      · rw [show decide (k < n + 1) = decide (k < n) by rw [decide_eq_decide]; omega]
theorem nmk_congr {p q : Nat → Bool} {n : Nat} (h : ∀ k, k < n → p k = q k) : nmk p n = nmk q n := by
  apply Nat.eq_of_testBit_eq
  intro i
  rw [nmk_tb, nmk_tb]
  by_cases c : i < n
  · rw [h i c]
  · rw [decide_eq_false c]; rfl
theorem nn_or (a b : Nat) : nn a ||| nn b = nn (a ||| b) := by
  rw [← Int32.toBitVec_inj, Int32.toBitVec_or]
  show BitVec.ofNat 32 a ||| BitVec.ofNat 32 b = BitVec.ofNat 32 (a ||| b)
  rw [BitVec.ofNat_or]
theorem nn_and (a b : Nat) : nn a &&& nn b = nn (a &&& b) := by
  rw [← Int32.toBitVec_inj, Int32.toBitVec_and]
  show BitVec.ofNat 32 a &&& BitVec.ofNat 32 b = BitVec.ofNat 32 (a &&& b)
  rw [BitVec.ofNat_and]
theorem nn_sh1 {k : Nat} (h : k < 31) : (1 : Int32) <<< (nn k &&& 31) = nn (2 ^ k) := by
  have : ∀ k, k < 31 → (1 : Int32) <<< (nn k &&& 31) = nn (2 ^ k) := by decide +kernel
  exact this k h
def WL (L : Lw) : Prop := inr (L 0 0) 12 ∧ ∀ c, c < lC L → inr (L 1 c) 3 ∧ (isB L c = false → inr (L 2 c) 3 ∧ inr (L 3 c) 5) ∧ (isB L c = true → inr (L 4 c) 300 ∧ inr (L 5 c) 300 ∧ lT L c ≤ lE L c ∧ tyr L (lT L c) [] (lE L c - lT L c) = some [true] ∧ nv L (lT L c) (lE L c - lT L c) ≤ 60 ∧ ∀ e, lT L c ≤ e → e < lE L c → L 6 e = 1 → ∃ j, j < 7 ∧ L 7 e = nn j)
def CL (a : Nat) (L : Lw) (h : qa_M) : Prop :=
  h.1 a 0 = nn (cnt (fun c => !isB L c) (lC L)) ∧ h.1 a 4 = nn (cnt (isB L) (lC L)) ∧
  (∀ c, c < lC L → isB L c = false → h.1 (a + 1) (cnt (fun c => !isB L c) c) = L 1 c ∧ h.1 (a + 2) (cnt (fun c => !isB L c) c) = L 2 c ∧ h.1 (a + 3) (cnt (fun c => !isB L c) c) = L 3 c) ∧
  (∀ c, c < lC L → isB L c = true → h.1 (a + 4) (cnt (isB L) c) = L 1 c ∧ h.1 (a + 5) (cnt (isB L) c) = L 4 c ∧ (if cnt (isB L) c + 1 < cnt (isB L) (lC L) then h.1 (a + 5) (cnt (isB L) c + 1) else h.1 a 8) = L 5 c ∧ ∀ e, lT L c ≤ e → e < lE L c → cr (h.1 (a + 6) e) (L 6 e) (L 7 e))
theorem WL.n {L : Lw} (w : WL L) : L 0 0 = nn (lC L) ∧ lC L ≤ 12 := inr_nn w.1 (by omega)
def fI (s : Sg) (q : Nat) : Nat → Int64 := fun j => (nn (fct s q j)).toInt64
def brd (L : Lw) (f : Nat → Int64) (i : Nat) : Bool := exN (fun c => isB L c && (decide (L 1 c = nn i) && vl L f c)) (lC L)
def brS (s : Sg) (L : Nat → Lw) (q i : Nat) : Bool := if gL s = 0 then false else brd (L (gL s - 1)) (fI s q) i
/-- the reference's law that stands -/
theorem r_barred {h : qa_M} (w : WF (sg h)) (wl : ∀ k, k + 1 = gL (sg h) → WL (lw h k)) {q : Nat} (hq : q < 36) (ht : thr (sg h) q = true) :
    qW (m_X12_barred (nn q) h) (fun z => z.1 = nn (nmk (brS (sg h) (lw h) q) (gS (sg h)))) := by
  have e6 : h.1 120 6 = nn (gL (sg h)) := w.l.1
  have l6 := w.l.2
  have l4 := w.s.2
  unfold m_X12_barred
  simp (disch := first | omega | decide) only [qbn_x, qbv_x, qup_x, qbd_x, qck_nn, qck_ok, nn_cl, nn_add1, lx0, lx1, lx2, lx3, lx4, lx5, lx6, lx7, lx8, lx9, lx10, bi_e0, bi_e1]
  rw [e6]
  rcases Nat.eq_zero_or_pos (gL (sg h)) with z | z
  · rw [z, if_pos (by decide), qW_some]
    show (0 : Int32) = _
    rw [show nmk (brS (sg h) (lw h) q) (gS (sg h)) = 0 by
      rw [nmk_congr (q := fun _ => false) (fun k _ => by unfold brS; rw [if_pos z])]
      apply Nat.eq_of_testBit_eq
      intro i
      rw [nmk_tb]
      simp]
    rfl
  · obtain ⟨k, hk⟩ : ∃ k, gL (sg h) = k + 1 := ⟨gL (sg h) - 1, by omega⟩
    have wk := wl k hk.symm
    rw [hk, nn_sub1 (by omega), Nat.add_sub_cancel, if_neg (nn_ne1 (by omega)), qW_bv]
    refine qW_fr (r_asks w hq ht) (fun g e => fr_X12_asks _ _ e) ?_
    intro g hg fg
    obtain ⟨L, hL⟩ : ∃ L, L = lw h k := ⟨_, rfl⟩
    obtain ⟨n1, n2⟩ := wk.n
    have key : ∀ i, brS (sg h) (lw h) q i = brd L (fI (sg h) q) i := by
      intro i
      unfold brS
      rw [if_neg (by omega), hk, Nat.add_sub_cancel, hL]
    rw [nmk_congr (fun i _ => key i)]
    rw [← hL] at wk n1 n2
    rw [show (12 : Int32) = nn 12 from rfl, nn_mul]
    unfold f_X12_barred_b28_loop
    let A : Nat → Nat := fun j => nmk (fun i => exN (fun c => isB L c && (decide (L 1 c = nn i) && vl L (fI (sg h) q) c)) j) (gS (sg h))
    refine qW_for (lC L) (fun j s => ∃ g2, s = (nn k, nn (A j), nn (12 * k + j), g2) ∧ qfr [(150, 0)] g g2) ?_ ?_ (Nat.zero_le _) ⟨g, ?_, qfr_rf⟩
    · rintro j s hj ⟨g2, rfl, fg2⟩
      obtain ⟨o1, o2, o3⟩ := wk.2 j hj
      obtain ⟨p1, p2⟩ := inr_nn o1 (by omega)
      have r2 : ∀ b i, b ≠ 149 → b ≠ 150 → g2.1 b i = h.1 b i := by
        intro b i h1 h2
        rw [(fg2.1 b i (by unfold inW; simp; omega)).1, (fg.1 b i (by unfold inW w_X12_asks; simp; omega)).1]
      have hs2 : sg g2 = sg h := by
        funext i j
        unfold sg
        split <;> first | exact r2 _ _ (by omega) (by omega) | rfl
      have hl2 : lw g2 k = L := by
        rw [hL]
        funext i j
        unfold lw
        split <;> exact r2 _ _ (by omega) (by omega)
      have c0 : g2.1 142 k = nn (lC L) := by rw [← n1, ← hl2]; rfl
      have c1 : g2.1 143 (12 * k + j) = L 1 j := by rw [← hl2]; rfl
      have c2 : g2.1 144 (12 * k + j) = L 2 j := by rw [← hl2]; rfl
      have c4 : g2.1 146 (12 * k + j) = L 4 j := by rw [← hl2]; rfl
      have c5 : g2.1 147 (12 * k + j) = L 5 j := by rw [← hl2]; rfl
      have fin : ∀ (v : Int32) (g3 : qa_M), nn (A j) ||| v = nn (A (j + 1)) → qfr [(150, 0)] g g3 → qW (f_X12_barred_b107 (nn k) (nn (12 * k + j)) (nn (A j)) v g3) (Sum.elim (fun s => ∃ g2, s = (nn k, nn (A (j + 1)), nn (12 * k + (j + 1)), g2) ∧ qfr [(150, 0)] g g2) (fun z => z.1 = nn (nmk (brd L (fI (sg h) q)) (gS (sg h))))) := by
        intro v g3 q1 q2
        unfold f_X12_barred_b107
        rw [qbd_e, q1, qbd_e, nn_add1, qW_some]
        exact ⟨g3, rfl, q2⟩
      have no : (∀ i, i < gS (sg h) → (isB L j && (decide (L 1 j = nn i) && vl L (fI (sg h) q) j)) = false) → nn (A j) ||| 0 = nn (A (j + 1)) := by
        intro q0
        rw [show (0 : Int32) = nn 0 from rfl, nn_or]
        congr 1
        apply Nat.eq_of_testBit_eq
        intro i
        rw [Nat.or_zero, nmk_tb, nmk_tb]
        by_cases c : i < gS (sg h)
        · show (_ && exN _ j) = (_ && (exN _ j || (isB L j && (decide (L 1 j = nn i) && vl L (fI (sg h) q) j))))
          rw [q0 i c, Bool.or_false]
        · rw [decide_eq_false c]; rfl
      show qW (f_X12_barred_b28 (nn k) (nn (A j)) (nn (12 * k + j)) g2) _
      unfold f_X12_barred_b28
      rw [qck_nn (by omega) (by omega), nn_cl (by omega), c0, show (12 : Int32) = nn 12 from rfl, nn_mul, nn_add, if_neg (fun q => by rw [nn_le (by omega) (by omega)] at q; omega)]
      simp (disch := first | omega | decide) only [qbn_x, qbv_x, qup_x, qbd_x, qck_nn, qck_ok, nn_cl, nn_add1, lx0, lx1, lx2, lx3, lx4, lx5, lx6, lx7, lx8, lx9, lx10, bi_e0, bi_e1]
      rw [c2, c1]
      by_cases cb : L 2 j = -1
      · rw [if_pos cb, r_isSort (by rw [hs2]; exact w), hs2, qbn_s, c4, c5]
        have isb : isB L j = true := decide_eq_true cb
        obtain ⟨t1, t2, t3, t4, t5, t6⟩ := o3 isb
        obtain ⟨u1, u2⟩ := inr_nn t1 (by omega)
        obtain ⟨v1, v2⟩ := inr_nn t2 (by omega)
        simp only [bi_e0, decide_eq_false_iff_not]
        by_cases cs : cN (L 1 j) < gS (sg h)
        · rw [if_neg (by rw [p1, nn_toInt (by omega)]; omega)]
          have ra := r_answer (h := g2) (k := k) (e := lT L j) (n := lE L j - lT L j) (f := fI (sg h) q) (by omega) (by unfold lE lT at *; omega) (fun i hi => by rw [(fg2.1 149 i rfl).2.1]; exact hg i hi) (by
            intro i hi hx
            rw [hl2] at hx ⊢
            exact t6 _ (by omega) (by omega) hx) (by rw [hl2]; exact t4)
          rw [hl2, show lT L j + (lE L j - lT L j) = lE L j by omega] at ra
          rw [u1, v1, qW_bn]
          refine qW_fr ra (fun z e => fr_X12_answer _ _ _ _ e) ?_
          rintro ⟨v, g3⟩ ⟨q1, q2⟩ f3
          have f3 : qfr [(150, 0)] g g3 := qfr_tr fg2 f3
          have c13 : g3.1 143 (12 * k + j) = L 1 j := by rw [(f3.1 143 _ rfl).1, ← (fg2.1 143 _ rfl).1]; exact c1
          dsimp only at q1 q2 ⊢
          have hv : vl L (fI (sg h) q) j = decide (v = 1) := by
            unfold vl
            rw [q1, decide_eq_decide]
            simp
          by_cases cv : v = 1
          · rw [if_pos cv, c13, p1, nn_sh1 (by omega)]
            refine fin _ g3 ?_ f3
            rw [nn_or]
            congr 1
            apply Nat.eq_of_testBit_eq
            intro i
            rw [Nat.testBit_or, nmk_tb, nmk_tb, Nat.testBit_two_pow]
            show _ = (_ && (exN _ j || (isB L j && (decide (L 1 j = nn i) && vl L (fI (sg h) q) j))))
            rw [hv, decide_eq_true cv, isb, Bool.true_and, Bool.and_true]
            by_cases ci : i < gS (sg h)
            · rw [decide_eq_true ci, Bool.true_and, Bool.true_and, p1]
              congr 1
              rw [decide_eq_decide, nn_eq (by omega) (by omega), cN_nn (by omega)]
            · rw [decide_eq_false ci, Bool.false_and, Bool.false_and, decide_eq_false (by omega)]
              rfl
          · rw [if_neg cv]
            exact fin 0 g3 (no (fun i _ => by rw [hv, decide_eq_false cv, Bool.and_false, Bool.and_false])) f3
        · rw [if_pos (by rw [p1, nn_toInt (by omega)]; omega)]
          refine fin 0 g2 (no (fun i hi => ?_)) fg2
          rw [p1, decide_eq_false (by rw [nn_eq (by omega) (by omega)]; omega), Bool.false_and, Bool.and_false]
      · rw [if_neg cb]
        exact fin 0 g2 (no (fun i _ => by rw [show isB L j = false from decide_eq_false cb, Bool.false_and])) fg2
    · rintro s ⟨g2, rfl, fg2⟩
      have c0 : g2.1 142 k = nn (lC L) := by
        rw [(fg2.1 142 _ rfl).1, (fg.1 142 _ rfl).1, ← n1, hL]
        rfl
      show qW (f_X12_barred_b28 (nn k) (nn (A (lC L))) (nn (12 * k + lC L)) g2) _
      unfold f_X12_barred_b28
      rw [qck_nn (by omega) (by omega), nn_cl (by omega), c0, show (12 : Int32) = nn 12 from rfl, nn_mul, nn_add, if_pos ((nn_le (by omega) (by omega)).mpr (by omega)), qup_s, qW_some]
      rfl
    · have : A 0 = 0 := by
        apply Nat.eq_of_testBit_eq
        intro i
        show (nmk _ _).testBit i = _
        rw [nmk_tb]
        simp [exN]
      rw [this]
      rfl
