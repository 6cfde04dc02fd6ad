/-! BITS OF A LONG -/
def tb (x : Int64) (k : Nat) : Bool := x.toBitVec.getLsbD k
theorem tb_ge {x : Int64} {k : Nat} (h : 64 ≤ k) : tb x k = false := BitVec.getLsbD_of_ge _ _ h
theorem tb_ext {x y : Int64} (h : ∀ k, k < 64 → tb x k = tb y k) : x = y := by
  rw [← Int64.toBitVec_inj]
  exact BitVec.eq_of_getLsbD_eq (fun i hi => h i hi)
theorem tb_and (x y : Int64) (k : Nat) : tb (x &&& y) k = (tb x k && tb y k) := by
  unfold tb; rw [Int64.toBitVec_and, BitVec.getLsbD_and]
theorem tb_or (x y : Int64) (k : Nat) : tb (x ||| y) k = (tb x k || tb y k) := by
  unfold tb; rw [Int64.toBitVec_or, BitVec.getLsbD_or]
theorem tb_xor (x y : Int64) (k : Nat) : tb (x ^^^ y) k = (tb x k ^^ tb y k) := by
  unfold tb; rw [Int64.toBitVec_xor, BitVec.getLsbD_xor]
theorem tb_zero (k : Nat) : tb 0 k = false := by
  unfold tb
  rw [show (0 : Int64).toBitVec = 0#64 from rfl, BitVec.getLsbD_zero]
theorem tb_m1 (k : Nat) : tb (-1) k = decide (k < 64) := by
  unfold tb
  rw [show (-1 : Int64).toBitVec = BitVec.allOnes 64 from rfl, BitVec.getLsbD_allOnes]
theorem tb_not {x : Int64} {k : Nat} (h : k < 64) : tb (x ^^^ (-1)) k = !tb x k := by
  rw [tb_xor, tb_m1, decide_eq_true h]
  cases tb x k <;> rfl
theorem tb_eq0 {x : Int64} : x = 0 ↔ ∀ k, k < 64 → tb x k = false := by
  constructor
  · rintro rfl k _; exact tb_zero k
  · intro h; exact tb_ext (fun k hk => by rw [h k hk, tb_zero])
theorem tb_ne0 {x : Int64} (h : x ≠ 0) : ∃ k, k < 64 ∧ tb x k = true := by
  apply Classical.byContradiction
  intro n
  apply h
  rw [tb_eq0]
  intro k hk
  cases e : tb x k with
  | false => rfl
  | true => exact absurd ⟨k, hk, e⟩ n
theorem nn_64 {q : Nat} (h : q < 64) : ((nn q).toInt64 &&& 63).toBitVec = BitVec.ofNat 64 q := by
  have : ∀ q, q < 64 → ((nn q).toInt64 &&& 63).toBitVec = BitVec.ofNat 64 q := by decide +kernel
  exact this q h
theorem tb_shl {x : Int64} {q k : Nat} (h : q < 64) : tb (q_lshl x (nn q)) k = (decide (q ≤ k) && decide (k < 64) && tb x (k - q)) := by
  have e : (q_lshl x (nn q)).toBitVec = x.toBitVec <<< q := by
    unfold q_lshl
    rw [Int64.toBitVec_shiftLeft, nn_64 h]
    rw [show (BitVec.ofNat 64 q).smod 64 = BitVec.ofNat 64 q by
      have : ∀ q, q < 64 → (BitVec.ofNat 64 q).smod 64 = BitVec.ofNat 64 q := by decide +kernel
      exact this q h]
    rw [BitVec.shiftLeft_eq', BitVec.toNat_ofNat, Nat.mod_eq_of_lt (by omega)]
  unfold tb
  rw [e, BitVec.getLsbD_shiftLeft]
  by_cases h1 : k < q <;> by_cases h2 : k < 64 <;> simp [h1, h2, Nat.not_le.mpr, Nat.not_lt.mp]
  all_goals try omega
theorem tb_ushr {x : Int64} {q k : Nat} (h : q < 64) : tb (q_lushr x (nn q)) k = tb x (k + q) := by
  have e : (q_lushr x (nn q)).toBitVec = x.toBitVec >>> q := by
    have : (x.toUInt64 >>> ((nn q).toInt64.toUInt64 &&& Int64.toUInt64 63)).toBitVec = x.toBitVec >>> q := by
      rw [UInt64.toBitVec_shiftRight]
      have : ∀ q, q < 64 → ((nn q).toInt64.toUInt64 &&& Int64.toUInt64 63).toBitVec % 64 = BitVec.ofNat 64 q := by decide +kernel
      rw [this q h, BitVec.ushiftRight_eq', BitVec.toNat_ofNat, Nat.mod_eq_of_lt (by omega)]
      rfl
    exact this
  unfold tb
  rw [e, BitVec.getLsbD_ushiftRight, Nat.add_comm]
theorem tb_sshr {x : Int64} {q k : Nat} (h : q + k < 64) : tb (q_lshr x (nn q)) k = tb x (k + q) := by
  have e : (q_lshr x (nn q)).toBitVec = x.toBitVec.sshiftRight q := by
    unfold q_lshr
    rw [Int64.toBitVec_shiftRight, nn_64 (by omega)]
    rw [show (BitVec.ofNat 64 q).smod 64 = BitVec.ofNat 64 q by
      have : ∀ q, q < 64 → (BitVec.ofNat 64 q).smod 64 = BitVec.ofNat 64 q := by decide +kernel
      exact this q (by omega)]
    rw [BitVec.sshiftRight_eq', BitVec.toNat_ofNat, Nat.mod_eq_of_lt (by omega)]
  unfold tb
  rw [e, BitVec.getLsbD_sshiftRight, Nat.add_comm]
  simp [show ¬ 64 ≤ k by omega, show k + q < 64 by omega]
theorem tb_one (k : Nat) : tb 1 k = decide (k = 0) := by
  unfold tb
  rw [show (1 : Int64).toBitVec = 1#64 from rfl, BitVec.getLsbD_one]
  simp
theorem tb_bit {q k : Nat} (h : q < 64) : tb (q_lshl 1 (nn q)) k = decide (k = q) := by
  rw [tb_shl h, tb_one]
  rw [Bool.eq_iff_iff]
  simp
  omega
theorem tb_up {q k : Nat} (h : q < 63) : tb (q_lshl (-2) (nn q)) k = (decide (q < k) && decide (k < 64)) := by
  rw [tb_shl (by omega)]
  have : ∀ j, j < 64 → tb (-2) j = decide (0 < j) := by decide +kernel
  by_cases h1 : q ≤ k ∧ k < 64
  · rw [this (k - q) (by omega)]
    rw [Bool.eq_iff_iff]
    simp
    omega
  · rw [Bool.eq_iff_iff]
    simp
    omega
/-- the bit itself -/
theorem tb_get {x : Int64} : (x &&& 1) = if tb x 0 then 1 else 0 := by
  apply tb_ext
  intro k _
  rw [tb_and, tb_one]
  by_cases hk : k = 0
  · subst hk
    cases tb x 0 <;> simp [tb_one, tb_zero]
  · cases tb x 0 <;> simp [tb_one, tb_zero, hk]
theorem tb_g0 {x : Int64} {q : Nat} (h : q < 64) : ((q_lushr x (nn q)) &&& 1 = 0) ↔ tb x q = false := by
  rw [tb_get, tb_ushr h, Nat.zero_add]
  cases tb x q <;> simp
theorem tb_g32 {x : Int64} {q : Nat} (h : q < 64) : ((q_lushr x (nn q)) &&& 1).toInt32 = nn (if tb x q then 1 else 0) := by
  rw [tb_get, tb_ushr h, Nat.zero_add]
  cases tb x q <;> rfl
theorem tb_s1 {x : Int64} {q : Nat} (h : q < 64) : ((q_lshr x (nn q)) &&& 1 = 1) ↔ tb x q = true := by
  rw [tb_get, tb_sshr h, Nat.zero_add]
  cases tb x q <;> simp
theorem tb_s32 {n k : Nat} (hn : n < 2147483648) : tb (nn n).toInt64 k = n.testBit k := by
  have e : (nn n).toInt64.toBitVec = BitVec.ofNat 64 n := by
    rw [show (nn n).toInt64 = Int64.ofNat n by
      rw [← Int64.toInt_inj, Int32.toInt_toInt64, nn_toInt hn, Int64.toInt_ofNat_of_lt (by omega)]]
    rfl
  unfold tb
  rw [e, BitVec.getLsbD_ofNat]
  by_cases hk : k < 64
  · simp [hk]
  · rw [Nat.testBit_lt_two_pow (x := n) (i := k) (Nat.lt_of_lt_of_le hn (Nat.pow_le_pow_right (n := 2) (i := 31) (by omega) (by omega)))]
    simp
/-! the lowest bit -/
theorem tb_sub1 {x : Int64} {j : Nat} (hj : tb x j = true) (hl : ∀ k, k < j → tb x k = false) (k : Nat) : tb (x - 1) k = if k < j then true else if k = j then false else tb x k := by
  have h64 : j < 64 := by
    apply Classical.byContradiction
    intro n
    rw [tb_ge (by omega)] at hj
    cases hj
  let X := x.toBitVec.toNat
  have tX : ∀ k, tb x k = X.testBit k := fun k => rfl
  have e1 : X = 2 ^ (j + 1) * (X / 2 ^ (j + 1)) + 2 ^ j := by
    apply Nat.eq_of_testBit_eq
    intro i
    rw [Nat.testBit_two_pow_mul_add _ (Nat.pow_lt_pow_right (by omega) (by omega))]
    split
    · rename_i hi
      rw [Nat.testBit_two_pow]
      rcases Nat.lt_or_ge i j with h | h
      · rw [← tX, hl i h]
        simp
        omega
      · have : i = j := by omega
        subst this
        rw [← tX, hj]
        simp
    · rename_i hi
      rw [Nat.testBit_div_two_pow]
      congr 1
      omega
  have hp : 0 < 2 ^ j := Nat.two_pow_pos j
  have e2 : (x - 1).toBitVec.toNat = 2 ^ (j + 1) * (X / 2 ^ (j + 1)) + (2 ^ j - 1) := by
    rw [Int64.toBitVec_sub, BitVec.toNat_sub]
    have hX : X < 2 ^ 64 := x.toBitVec.isLt
    rw [show (1 : Int64).toBitVec.toNat = 1 from rfl]
    show (2 ^ 64 - 1 + X) % 2 ^ 64 = _
    rw [show 2 ^ 64 - 1 + X = (X - 1) + 2 ^ 64 by omega, Nat.add_mod_right, Nat.mod_eq_of_lt (by omega)]
    omega
  show Nat.testBit _ k = _
  rw [e2, Nat.testBit_two_pow_mul_add _ (by have : 2 ^ j < 2 ^ (j + 1) := Nat.pow_lt_pow_right (by omega) (by omega); omega), Nat.testBit_two_pow_sub_one]
  rcases Nat.lt_trichotomy k j with h | h | h
  · simp [h, show k < j + 1 by omega]
  · simp [h]
  · simp [show ¬ k < j + 1 by omega, show ¬ k < j by omega, show ¬ k = j by omega]
    rw [Nat.testBit_div_two_pow, tX]
    congr 1
    omega
theorem tb_neg {x : Int64} {k : Nat} (hk : k < 64) : tb (-x) k = !tb (x - 1) k := by
  have : (-x).toBitVec = ~~~((x - 1).toBitVec) := by
    rw [Int64.toBitVec_neg, Int64.toBitVec_sub, show (1 : Int64).toBitVec = 1#64 from rfl, BitVec.not_sub_one_eq_not_add_one, BitVec.neg_eq_not_add]
  unfold tb
  rw [this, BitVec.getLsbD_not]
  simp [hk]
theorem tb_low {x : Int64} (h : x ≠ 0) : ∃ j, j < 64 ∧ tb x j = true ∧ ∀ k, k < j → tb x k = false := by
  obtain ⟨k, hk, e⟩ := tb_ne0 h
  induction k using Nat.strongRecOn with
  | ind k ih =>
    by_cases hx : ∃ i, i < k ∧ tb x i = true
    · obtain ⟨i, hi, ei⟩ := hx
      exact ih i hi (by omega) ei
    · refine ⟨k, hk, e, ?_⟩
      intro i hi
      cases ei : tb x i with
      | false => rfl
      | true => exact absurd ⟨i, hi, ei⟩ hx
/-- without the lowest -/
theorem tb_next {x : Int64} {j : Nat} (hj : tb x j = true) (hl : ∀ k, k < j → tb x k = false) (k : Nat) : tb (x &&& (x - 1)) k = (tb x k && decide (k ≠ j)) := by
  rw [tb_and, tb_sub1 hj hl]
  rcases Nat.lt_trichotomy k j with h | h | h
  · rw [hl k h]; rfl
  · simp [h]
  · simp [show ¬ k < j by omega, show ¬ k = j by omega]
theorem tb_below {x : Int64} {j : Nat} (hj : tb x j = true) (hl : ∀ k, k < j → tb x k = false) (k : Nat) : tb ((x &&& (-x)) - 1) k = decide (k < j) := by
  have h64 : j < 64 := by
    apply Classical.byContradiction
    intro n
    rw [tb_ge (by omega)] at hj
    cases hj
  have e : ∀ i, i < 64 → tb (x &&& (-x)) i = decide (i = j) := by
    intro i hi
    rw [tb_and, tb_neg hi, tb_sub1 hj hl]
    rcases Nat.lt_trichotomy i j with h | h | h
    · rw [hl i h]; simp; omega
    · simp [h, hj]
    · simp [show ¬ i < j by omega, show ¬ i = j by omega]
  rw [tb_sub1 (j := j) (by rw [e j h64]; simp) (by intro i hi; rw [e i (by omega)]; simp; omega)]
  rcases Nat.lt_trichotomy k j with h | h | h
  · simp [h]
  · simp [h]
  · rcases Nat.lt_or_ge k 64 with h6 | h6
    · rw [e k h6]; simp [show ¬ k < j by omega, show ¬ k = j by omega]
    · rw [tb_ge h6]; simp [show ¬ k < j by omega]
