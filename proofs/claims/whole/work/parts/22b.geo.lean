/-! THE LAND, as twelve rows: 0 columns, rows, hills, roads, sorts, notes, law + 1, x; 1 wood; 2, 3 hills; 4, 5 roads; 6 sorts; 7 to 11 notes -/
abbrev Sg : Type := Nat → Nat → Int32
def sg (h : qa_M) : Sg := fun i j => match i with
  | 0 => h.1 120 j
  | 1 => h.1 121 j
  | 2 => h.1 122 j
  | 3 => h.1 123 j
  | 4 => h.1 124 j
  | 5 => h.1 125 j
  | 6 => h.1 126 j
  | 7 => h.1 127 j
  | 8 => h.1 128 j
  | 9 => h.1 129 j
  | 10 => h.1 130 j
  | 11 => h.1 131 j
  | _ => 0
def cN (x : Int32) : Nat := x.toNatClampNeg
theorem cN_nn {n : Nat} (h : n < 2147483648) : cN (nn n) = n := nn_cl h
def gC (s : Sg) : Nat := cN (s 0 0)
def gR (s : Sg) : Nat := cN (s 0 1)
def gH (s : Sg) : Nat := cN (s 0 2)
def gO (s : Sg) : Nat := cN (s 0 3)
def gS (s : Sg) : Nat := cN (s 0 4)
def gT (s : Sg) : Nat := cN (s 0 5)
def gL (s : Sg) : Nat := cN (s 0 6)
def thr (s : Sg) (q : Nat) : Bool := decide (q % 6 < gC s) && decide (q / 6 < gR s)
def hon (s : Sg) (q : Nat) : Int32 := fstI (fun i => decide (s 2 i = nn q)) (gH s)
def isW (s : Sg) (q : Nat) : Bool := decide (s 1 q = 1) && decide (hon s q = -1)
def dst (a b : Nat) : Nat := (a - b) + (b - a)
def ds (a b : Nat) : Nat := max (dst (a % 6) (b % 6)) (dst (a / 6) (b / 6))
def px (x0 x1 n k : Nat) : Nat := ((x0 : Int) + Int.fdiv (2 * k * ((x1 : Int) - x0) + n) (2 * n)).toNat
def pth (a b n k : Nat) : Nat := 6 * px (a / 6) (b / 6) n k + px (a % 6) (b % 6) n k
def alF (p : Nat → Bool) : Nat → Nat → Bool
  | _, 0 => true
  | k, m + 1 => p k && alF p (k + 1) m
def seen (s : Sg) (a b m : Nat) : Bool := decide (ds a b ≤ m) && alF (fun k => !isW s (pth a b (ds a b) k)) 1 (ds a b - 1)
def seesM (s : Sg) (a m : Nat) : Int64 := mkm (fun q => thr s q && seen s a q m) 36
def onR (s : Sg) (r q : Nat) : Bool := decide (cN (s 4 r) % 6 ≤ q % 6 ∧ q % 6 ≤ cN (s 5 r) % 6) && decide (cN (s 4 r) / 6 ≤ q / 6 ∧ q / 6 ≤ cN (s 5 r) / 6)
def roadM (s : Sg) (r : Nat) : Int64 := mkm (onR s r) 36
def sumN (f : Nat → Nat) : Nat → Nat
  | 0 => 0
  | n + 1 => sumN f n + f n
def inr (x : Int32) (m : Nat) : Prop := ∃ n, n ≤ m ∧ x = nn n
theorem inr_nn {x : Int32} {m : Nat} (h : inr x m) (hm : m < 2147483648) : x = nn (cN x) ∧ cN x ≤ m := by
  obtain ⟨n, hn, rfl⟩ := h
  rw [cN_nn (by omega)]
  exact ⟨rfl, hn⟩
/-- how many things there are of a sort -/
def mny (s : Sg) (i : Nat) : Nat := cN (s 6 i)
def WF (s : Sg) : Prop :=
  (inr (s 0 0) 6 ∧ inr (s 0 1) 6 ∧ inr (s 0 2) 8 ∧ inr (s 0 3) 6 ∧ inr (s 0 4) 4 ∧ inr (s 0 5) 10 ∧ inr (s 0 6) 4 ∧ inr (s 0 7) 2147483647) ∧
  (∀ i, i < gH s → inr (s 2 i) 35 ∧ thr s (cN (s 2 i)) = true ∧ inr (s 3 i) 9) ∧
  (∀ i, i < gO s → inr (s 4 i) 35 ∧ inr (s 5 i) 35) ∧
  ((∀ i, i < gS s → inr (s 6 i) 4) ∧ sumN (mny s) (gS s) ≤ 4) ∧
  (∀ q, q < 36 → (s 1 q = 0 ∨ s 1 q = 1) ∧ (s 1 q = 1 → thr s q = true)) ∧
  (∀ n, n < gT s → inr (s 7 n) 5 ∧ inr (s 8 n) 1 ∧ inr (s 9 n) 7 ∧ cN (s 9 n) < (if cN (s 8 n) = 0 then gH s else gO s) ∧ inr (s 10 n) 3 ∧ cN (s 10 n) < gS s ∧ -1 ≤ (s 11 n).toInt ∧ (s 11 n).toInt ≤ 3) ∧
  (gC s = 0 → gR s = 0 ∧ gH s = 0 ∧ gO s = 0 ∧ gS s = 0 ∧ gT s = 0)
theorem WF.c {s : Sg} (w : WF s) : s 0 0 = nn (gC s) ∧ gC s ≤ 6 := inr_nn w.1.1 (by omega)
theorem WF.r {s : Sg} (w : WF s) : s 0 1 = nn (gR s) ∧ gR s ≤ 6 := inr_nn w.1.2.1 (by omega)
theorem WF.h {s : Sg} (w : WF s) : s 0 2 = nn (gH s) ∧ gH s ≤ 8 := inr_nn w.1.2.2.1 (by omega)
theorem WF.o {s : Sg} (w : WF s) : s 0 3 = nn (gO s) ∧ gO s ≤ 6 := inr_nn w.1.2.2.2.1 (by omega)
theorem WF.s {s : Sg} (w : WF s) : s 0 4 = nn (gS s) ∧ gS s ≤ 4 := inr_nn w.1.2.2.2.2.1 (by omega)
theorem WF.t {s : Sg} (w : WF s) : s 0 5 = nn (gT s) ∧ gT s ≤ 10 := inr_nn w.1.2.2.2.2.2.1 (by omega)
theorem WF.l {s : Sg} (w : WF s) : s 0 6 = nn (gL s) ∧ gL s ≤ 4 := inr_nn w.1.2.2.2.2.2.2.1 (by omega)
theorem WF.ha {s : Sg} (w : WF s) {i : Nat} (h : i < gH s) : s 2 i = nn (cN (s 2 i)) ∧ cN (s 2 i) ≤ 35 := inr_nn (w.2.1 i h).1 (by omega)
theorem WF.hf {s : Sg} (w : WF s) {i : Nat} (h : i < gH s) : s 3 i = nn (cN (s 3 i)) ∧ cN (s 3 i) ≤ 9 := inr_nn (w.2.1 i h).2.2 (by omega)
theorem WF.ra {s : Sg} (w : WF s) {i : Nat} (h : i < gO s) : s 4 i = nn (cN (s 4 i)) ∧ cN (s 4 i) ≤ 35 := inr_nn (w.2.2.1 i h).1 (by omega)
theorem WF.rb {s : Sg} (w : WF s) {i : Nat} (h : i < gO s) : s 5 i = nn (cN (s 5 i)) ∧ cN (s 5 i) ≤ 35 := inr_nn (w.2.2.1 i h).2 (by omega)
theorem WF.m {s : Sg} (w : WF s) {i : Nat} (h : i < gS s) : s 6 i = nn (mny s i) ∧ mny s i ≤ 4 := inr_nn (w.2.2.2.1.1 i h) (by omega)
def flA (a b : Int32) : Int32 := if 0 ≤ a - a / b * b then a / b else a / b - 1
def flB (a b : Int32) : Int32 := if 0 ≤ (a ^^^ b) then a / b else if a / b * b = a then a / b else a / b - 1
def pxB (x0 x1 n k : Nat) : Bool := !decide (dst x0 x1 ≤ n) || (decide (px x0 x1 n k < 6) && decide (nn x0 + flA ((2 * nn k) * (nn x1 - nn x0) + nn n) (2 * nn n) = nn (px x0 x1 n k)) && decide (nn x0 + flB ((2 * nn k) * (nn x1 - nn x0) + nn n) (2 * nn n) = nn (px x0 x1 n k)))
theorem px_b : ∀ x0, x0 < 6 → ∀ x1, x1 < 6 → ∀ n, n < 6 → ∀ k, k < n → pxB x0 x1 n k = true := by decide +kernel
theorem px_ok (x0 : Nat) (h0 : x0 < 6) (x1 : Nat) (h1 : x1 < 6) (n : Nat) (hn : n < 6) (k : Nat) (hk : k < n) (hd : dst x0 x1 ≤ n) : px x0 x1 n k < 6 ∧ nn x0 + flA ((2 * nn k) * (nn x1 - nn x0) + nn n) (2 * nn n) = nn (px x0 x1 n k) ∧ nn x0 + flB ((2 * nn k) * (nn x1 - nn x0) + nn n) (2 * nn n) = nn (px x0 x1 n k) := by
  have := px_b x0 h0 x1 h1 n hn k hk
  unfold pxB at this
  rw [decide_eq_true hd] at this
  simp only [Bool.not_true, Bool.false_or, Bool.and_eq_true, decide_eq_true_eq] at this
  exact ⟨this.1.1, this.1.2, this.2⟩
theorem dst_ok : ∀ a, a < 6 → ∀ b, b < 6 → dst a b < 6 ∧ (if 0 ≤ nn a - nn b then nn a - nn b else -(nn a - nn b)) = nn (dst a b) ∧ q_abs (nn b - nn a) = nn (dst a b) := by decide +kernel
theorem ds_lt {a b : Nat} (ha : a < 36) (hb : b < 36) : ds a b < 6 := by unfold ds dst; omega
theorem r_without {a b : Nat} {h : qa_M} (ha : a < 6) (hb : b < 6) : m_X12_without (nn a - nn b) h = some (nn (dst a b), h) := by
  unfold m_X12_without
  rw [← (dst_ok a ha b hb).2.1]
  split <;> rfl
theorem r_apartOf {a b : Nat} {h : qa_M} (ha : a < 36) (hb : b < 36) : m_X12_apartOf (nn a) (nn b) h = some (nn (ds a b), h) := by
  unfold m_X12_apartOf
  rw [nn_r6 (by omega), nn_r6 (by omega), nn_d6 (by omega), nn_d6 (by omega), r_without (by omega) (by omega)]
  simp only [qbn_s, qbd_e]
  rw [r_without (by omega) (by omega)]
  simp only [qbn_s, qbd_e]
  have h1 := (dst_ok (a % 6) (by omega) (b % 6) (by omega)).1
  have h2 := (dst_ok (a / 6) (by omega) (b / 6) (by omega)).1
  unfold ds
  by_cases e : dst (a % 6) (b % 6) ≤ dst (a / 6) (b / 6)
  · rw [if_pos ((nn_le (by omega) (by omega)).mpr e), Nat.max_eq_right e]
  · rw [if_neg (fun q => e ((nn_le (by omega) (by omega)).mp q)), Nat.max_eq_left (by omega)]
theorem nn_2k {n : Nat} (h : 0 < n) (h6 : n < 6) : ¬ ((2 : Int32) * nn n = 0) := by
  have : ∀ n, n < 6 → 0 < n → ¬ ((2 : Int32) * nn n = 0) := by decide +kernel
  exact this n h6 h
theorem r_floor {x0 x1 n k : Nat} {h : qa_M} (h0 : x0 < 6) (h1 : x1 < 6) (hn : n < 6) (hk : k < n) (hd : dst x0 x1 ≤ n) : ∃ f, m_X12_floor ((2 * nn k) * (nn x1 - nn x0) + nn n) (2 * nn n) h = some (f, h) ∧ nn x0 + f = nn (px x0 x1 n k) := by
  have q := (px_ok x0 h0 x1 h1 n hn k hk hd).2.1
  unfold m_X12_floor
  rw [qnz_f (nn_2k (by omega) hn), qnz_f (nn_2k (by omega) hn), qnz_f (nn_2k (by omega) hn)]
  unfold flA at q
  split at q
  · rename_i c; rw [if_pos c]; exact ⟨_, rfl, q⟩
  · rename_i c; rw [if_neg c]; exact ⟨_, rfl, q⟩
theorem r_floorDiv {x0 x1 n k : Nat} {h : qa_M} (h0 : x0 < 6) (h1 : x1 < 6) (hn : n < 6) (hk : k < n) (hd : dst x0 x1 ≤ n) : ∃ f, m_J9_floorDiv_7cf53 ((2 * nn k) * (nn x1 - nn x0) + nn n) (2 * nn n) h = some (f, h) ∧ nn x0 + f = nn (px x0 x1 n k) := by
  have q := (px_ok x0 h0 x1 h1 n hn k hk hd).2.2
  unfold m_J9_floorDiv_7cf53
  rw [qnz_f (nn_2k (by omega) hn)]
  simp only [qbd_e]
  unfold flB at q
  split at q
  · rename_i c; rw [if_pos c]; exact ⟨_, rfl, q⟩
  · rename_i c; rw [if_neg c]
    split at q
    · rename_i c; rw [if_pos c]; exact ⟨_, rfl, q⟩
    · rename_i c; rw [if_neg c]; exact ⟨_, rfl, q⟩
theorem r_isLand {h : qa_M} (w : WF (sg h)) : m_X12_isLand h = some (bi (decide (0 < gC (sg h))), h) := by
  have e : h.1 120 0 = nn (gC (sg h)) := w.c.1
  have l := w.c.2
  unfold m_X12_isLand
  rw [show (0 : Int32) = nn 0 from rfl, qck_nn (by omega) (by omega), nn_cl (by omega), e]
  simp only [nn_le (show gC (sg h) < 2147483648 by omega) (show 0 < 2147483648 by omega)]
  by_cases c : gC (sg h) ≤ 0
  · rw [if_pos c, decide_eq_false (by omega)]; rfl
  · rw [if_neg c, decide_eq_true (by omega)]; rfl
theorem r_isSquare {h : qa_M} (w : WF (sg h)) {x y : Int32} : m_X12_isSquare x y h = some (bi (decide ((0 ≤ x.toInt ∧ x.toInt < gC (sg h)) ∧ (0 ≤ y.toInt ∧ y.toInt < gR (sg h)))), h) := by
  have e : h.1 120 0 = nn (gC (sg h)) := w.c.1
  have e2 : h.1 120 1 = nn (gR (sg h)) := w.r.1
  have l := w.c.2
  have l2 := w.r.2
  unfold m_X12_isSquare
  rw [qck_ok (i := 0) (by decide), show (0 : Int32).toNatClampNeg = 0 from rfl, show (1 : Int32).toNatClampNeg = 1 from rfl, e, r_in, i64_i, i64_i, nn_m1 (by omega), qbn_s, qck_ok (i := 1) (by decide), e2, r_in, i64_i, i64_i, nn_m1 (by omega), qbn_s, show (0 : Int64).toInt = 0 from rfl]
  simp only [bi_e0, decide_eq_false_iff_not]
  by_cases a : 0 ≤ x.toInt ∧ x.toInt ≤ (gC (sg h) : Int) - 1
  · rw [if_neg (fun q => q a)]
    by_cases b : 0 ≤ y.toInt ∧ y.toInt ≤ (gR (sg h) : Int) - 1
    · rw [if_neg (fun q => q b), decide_eq_true (by omega)]; rfl
    · rw [if_pos b, decide_eq_false (by omega)]; rfl
  · rw [if_pos a, decide_eq_false (by omega)]; rfl
theorem r_isThere {h : qa_M} (w : WF (sg h)) {q : Nat} (hq : q < 36) : m_X12_isThere (nn q) h = some (bi (thr (sg h) q), h) := by
  unfold m_X12_isThere
  rw [nn_r6 (by omega), nn_d6 (by omega), r_isSquare w, qbn_s, qpr_t bi_01, nn_toInt (by omega), nn_toInt (by omega)]
  congr 3
  unfold thr
  rw [Bool.eq_iff_iff]
  simp
  omega
theorem r_isHill {h : qa_M} (w : WF (sg h)) {x : Int32} : m_X12_isHill x h = some (bi (decide (0 ≤ x.toInt ∧ x.toInt < gH (sg h))), h) := by
  have e : h.1 120 2 = nn (gH (sg h)) := w.h.1
  have l := w.h.2
  unfold m_X12_isHill
  rw [qck_ok (i := 2) (by decide), show (2 : Int32).toNatClampNeg = 2 from rfl, e, r_in, i64_i, i64_i, nn_m1 (by omega), qbn_s, qpr_t bi_01, show (0 : Int64).toInt = 0 from rfl]
  congr 3
  rw [decide_eq_decide]
  omega
theorem r_isSort {h : qa_M} (w : WF (sg h)) {x : Int32} : m_X12_isSort x h = some (bi (decide (0 ≤ x.toInt ∧ x.toInt < gS (sg h))), h) := by
  have e : h.1 120 4 = nn (gS (sg h)) := w.s.1
  have l := w.s.2
  unfold m_X12_isSort
  rw [qck_ok (i := 4) (by decide), show (4 : Int32).toNatClampNeg = 4 from rfl, e, r_in, i64_i, i64_i, nn_m1 (by omega), qbn_s, qpr_t bi_01, show (0 : Int64).toInt = 0 from rfl]
  congr 3
  rw [decide_eq_decide]
  omega
theorem r_hillOn {h : qa_M} (w : WF (sg h)) {q : Nat} : m_X12_hillOn (nn q) h = some (hon (sg h) q, h) := by
  have e : h.1 120 2 = nn (gH (sg h)) := w.h.1
  have l := w.h.2
  have hs : ∀ k, k < gH (sg h) → decide (sg h 2 k = nn q) = false → f_X12_hillOn_b2 (nn q) (nn k) h = some (.inl (nn q, nn (k + 1), h)) := by
    intro k hk hp
    have hp : ¬ (h.1 122 k = nn q) := of_decide_eq_false hp
    unfold f_X12_hillOn_b2
    rw [qck_ok (i := 2) (by decide), show (2 : Int32).toNatClampNeg = 2 from rfl, e, if_neg (by rw [nn_le (by omega) (by omega)]; omega), qck_nn (by omega) (by omega), nn_cl (by omega), if_neg hp, qbd_e, nn_add1]
  unfold m_X12_hillOn f_X12_hillOn_b2_loop
  rw [qbd_e]
  rcases first_of (fun i => decide (sg h 2 i = nn q)) (gH (sg h)) with ⟨k, hk, a, b⟩ | c
  · rw [hon, fstI_some hk a b]
    refine qlp_for0 (fun k => (nn q, nn k, h)) k (fun j hj => hs j (by omega) (b j hj)) ?_
    have a : h.1 122 k = nn q := of_decide_eq_true a
    show f_X12_hillOn_b2 (nn q) (nn k) h = _
    unfold f_X12_hillOn_b2
    rw [qck_ok (i := 2) (by decide), show (2 : Int32).toNatClampNeg = 2 from rfl, e, if_neg (by rw [nn_le (by omega) (by omega)]; omega), qck_nn (by omega) (by omega), nn_cl (by omega), if_pos a, qup_s]
  · rw [hon, fstI_none c]
    refine qlp_for0 (fun k => (nn q, nn k, h)) (gH (sg h)) (fun j hj => hs j hj (c j hj)) ?_
    show f_X12_hillOn_b2 (nn q) (nn (gH (sg h))) h = _
    unfold f_X12_hillOn_b2
    rw [qck_ok (i := 2) (by decide), show (2 : Int32).toNatClampNeg = 2 from rfl, e, if_pos (by rw [nn_le (by omega) (by omega)]; omega), qup_s]
theorem r_isWood {h : qa_M} (w : WF (sg h)) {q : Nat} (hq : q < 36) : m_X12_isWood (nn q) h = some (bi (isW (sg h) q), h) := by
  unfold m_X12_isWood isW
  rw [qck_nn hq (by omega), nn_cl (by omega), r_hillOn w, qbn_s]
  show (if h.1 121 q = 1 then _ else _) = some (bi (decide (h.1 121 q = 1) && _), h)
  by_cases a : h.1 121 q = 1
  · rw [if_pos a, ite_bi, decide_eq_true a, Bool.true_and]
  · rw [if_neg a, decide_eq_false a]; rfl
theorem pth_lt {a b n k : Nat} (ha : a < 36) (hb : b < 36) (hn : n = ds a b) (hk : k < n) : pth a b n k < 36 := by
  have hn6 : n < 6 := by rw [hn]; exact ds_lt ha hb
  have h1 := (px_ok (a % 6) (by omega) (b % 6) (by omega) n hn6 k hk (by rw [hn]; unfold ds; omega)).1
  have h2 := (px_ok (a / 6) (by omega) (b / 6) (by omega) n hn6 k hk (by rw [hn]; unfold ds; omega)).1
  unfold pth
  omega
theorem r_isSeen {h : qa_M} (w : WF (sg h)) {a b m : Nat} (ha : a < 36) (hb : b < 36) (hm : m < 2147483648) : m_X12_isSeen (nn a) (nn b) (nn m) h = some (bi (seen (sg h) a b m), h) := by
  have hn6 := ds_lt ha hb
  obtain ⟨n, hn⟩ : ∃ n, n = ds a b := ⟨_, rfl⟩
  have hd1 : dst (a % 6) (b % 6) ≤ n := by rw [hn]; unfold ds; omega
  have hd2 : dst (a / 6) (b / 6) ≤ n := by rw [hn]; unfold ds; omega
  have lp : ∀ (m k : Nat) (c : Bool), 1 ≤ k → k ≤ 6 → k + m = max n k → f_X12_isSeen_b45_loop (nn a) (nn n) (nn (b % 6) - nn (a % 6)) (nn (b / 6) - nn (a / 6)) (bi c) (nn k) h = some (bi (c && alF (fun k => !isW (sg h) (pth a b n k)) k m), h) := by
    intro m
    induction m with
    | zero =>
      intro k c h1 h6 hk
      unfold f_X12_isSeen_b45_loop
      refine qlp_out ?_
      show f_X12_isSeen_b45 _ _ _ _ (bi c) (nn k) h = _
      unfold f_X12_isSeen_b45
      rw [if_pos ((nn_le (by omega) (by omega)).mpr (by omega)), qpr_t bi_01, qup_s]
      simp [alF]
    | succ m ih =>
      intro k c h1 h6 hk
      have hkn : k < n := by omega
      unfold f_X12_isSeen_b45_loop
      cases c with
      | false =>
        refine qlp_out ?_
        show f_X12_isSeen_b45 _ _ _ _ (bi false) (nn k) h = _
        unfold f_X12_isSeen_b45
        rw [if_neg (fun q => by rw [nn_le (by omega) (by omega)] at q; omega), if_pos (by decide), qpr_t bi_01, qup_s]
        rfl
      | true =>
        obtain ⟨f1, q1, p1⟩ := r_floor (h := h) (show a % 6 < 6 by omega) (show b % 6 < 6 by omega) (show n < 6 by omega) hkn hd1
        obtain ⟨f2, q2, p2⟩ := r_floor (h := h) (show a / 6 < 6 by omega) (show b / 6 < 6 by omega) (show n < 6 by omega) hkn hd2
        have hp := pth_lt ha hb hn hkn
        rw [qlp_in (s2 := (nn a, nn n, nn (b % 6) - nn (a % 6), nn (b / 6) - nn (a / 6), bi (!isW (sg h) (pth a b n k)), nn (k + 1), h))]
        · have := ih (k + 1) (!isW (sg h) (pth a b n k)) (by omega) (by omega) (by omega)
          unfold f_X12_isSeen_b45_loop at this
          rw [this]
          rfl
        · show f_X12_isSeen_b45 _ _ _ _ (bi true) (nn k) h = _
          unfold f_X12_isSeen_b45
          rw [if_neg (fun q => by rw [nn_le (by omega) (by omega)] at q; omega), if_neg (by decide), nn_r6 (by omega), nn_d6 (by omega), q1, qbn_s, qbd_e, q2, qbn_s, qbd_e, p1, p2, show (6 : Int32) = nn 6 from rfl, nn_mul, nn_add]
          rw [show 6 * px (a / 6) (b / 6) n k + px (a % 6) (b % 6) n k = pth a b n k from rfl, r_isWood w hp, qbn_s]
          cases isW (sg h) (pth a b n k) <;> simp only [bi_t, bi_f, f_X12_isSeen_b125, qbd_e, nn_add1] <;> rfl
  unfold m_X12_isSeen
  rw [r_apartOf ha hb, qbn_s, nn_r6 (by omega), nn_r6 (by omega), nn_d6 (by omega), nn_d6 (by omega)]
  simp only [qbd_e]
  unfold seen
  rw [← hn]
  by_cases c : n ≤ m
  · rw [if_neg (fun q => by rw [nn_lt (by omega) (by omega)] at q; omega), decide_eq_true c]
    unfold f_X12_isSeen_b40
    have := lp (n - 1) 1 true (by omega) (by omega) (by omega)
    exact this
  · rw [if_pos ((nn_lt (by omega) (by omega)).mpr (by omega)), decide_eq_false c]
    unfold f_X12_isSeen_b40
    have := lp (n - 1) 1 false (by omega) (by omega) (by omega)
    exact this
theorem r_seenFrom {h : qa_M} (w : WF (sg h)) {a m : Nat} (ha : a < 36) (hm : m < 2147483648) : m_X12_seenFrom (nn a) (nn m) h = some (seesM (sg h) a m, h) := by
  unfold m_X12_seenFrom f_X12_seenFrom_b5_loop
  simp only [qbd_e]
  refine qlp_for0 (fun k => (nn a, nn m, mkm (fun q => thr (sg h) q && seen (sg h) a q m) k, nn k, h)) 36 ?_ ?_
  · intro k hk
    show f_X12_seenFrom_b5 _ _ _ (nn k) h = _
    unfold f_X12_seenFrom_b5
    rw [if_neg (fun q => by rw [show (36 : Int32) = nn 36 from rfl, nn_le (by omega) (by omega)] at q; omega), r_isThere w hk, qbn_s, r_isSeen w ha hk hm, qbn_s]
    simp only [bi_e0, mkm]
    rcases Bool.eq_false_or_eq_true (thr (sg h) k) with e1 | e1 <;> rcases Bool.eq_false_or_eq_true (seen (sg h) a k m) with e2 | e2 <;> simp [e1, e2, f_X12_seenFrom_b40, f_X12_seenFrom_b41, qbd_e, nn_add1]
  · show f_X12_seenFrom_b5 _ _ _ (nn 36) h = _
    unfold f_X12_seenFrom_b5
    rw [if_pos (by decide), qup_s]
    rfl
