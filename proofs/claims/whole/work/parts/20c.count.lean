/-! COUNTING BITS -/
theorem and_cut (k a m : Nat) : (a &&& m) = 2 ^ k * ((a / 2 ^ k) &&& (m / 2 ^ k)) + ((a % 2 ^ k) &&& (m % 2 ^ k)) := by
  rw [← Nat.and_div_two_pow, ← Nat.and_mod_two_pow, Nat.div_add_mod]
def sm (B : Nat) : Nat → (Nat → Nat) → Nat
  | 0, _ => 0
  | n + 1, f => f 0 + B * sm B n (fun i => f (i + 1))
theorem sm_congr {B : Nat} : ∀ (n : Nat) (f g : Nat → Nat), (∀ i, i < n → f i = g i) → sm B n f = sm B n g
  | 0, _, _, _ => rfl
  | n + 1, f, g, h => by
    show f 0 + B * _ = g 0 + B * _
    rw [h 0 (by omega), sm_congr n _ _ (fun i hi => h (i + 1) (by omega))]
theorem sm_mono {B : Nat} (c : Nat) : ∀ (n : Nat) (f : Nat → Nat), (∀ i, f i ≤ c) → sm B n f ≤ c * sm B n (fun _ => 1)
  | 0, _, _ => by simp [sm]
  | n + 1, f, h => by
    have ih := sm_mono (B := B) c n (fun i => f (i + 1)) (fun i => h _)
    have h0 := h 0
    show f 0 + B * sm B n (fun i => f (i + 1)) ≤ c * (1 + B * sm B n (fun _ => 1))
    have := Nat.mul_le_mul_left B ih
    rw [Nat.mul_add, Nat.mul_left_comm c B]
    omega
def mk1 : Nat → Nat
  | 0 => 0
  | n + 1 => 4 * mk1 n + 1
def mk3 : Nat → Nat
  | 0 => 0
  | n + 1 => 16 * mk3 n + 3
def mkf : Nat → Nat
  | 0 => 0
  | n + 1 => 256 * mkf n + 15
theorem bc_1 : ∀ (n X : Nat), X < 4 ^ n → (X / 2 &&& mk1 n) ≤ X ∧ X - (X / 2 &&& mk1 n) = sm 4 n (fun j => X / 4 ^ j % 2 + X / 4 ^ j / 2 % 2)
  | 0, X, h => by
    have : X = 0 := by simpa using h
    subst this
    exact ⟨by simp, by simp [sm]⟩
  | n + 1, X, h => by
    obtain ⟨l, e⟩ := bc_1 n (X / 4) (by rw [Nat.pow_succ] at h; omega)
    have e1 : (X / 2 &&& mk1 (n + 1)) = 4 * (X / 4 / 2 &&& mk1 n) + X / 2 % 2 := by
      rw [and_cut 2, show X / 2 / 2 ^ 2 = X / 4 / 2 by omega, show mk1 (n + 1) / 2 ^ 2 = mk1 n by show (4 * mk1 n + 1) / 2 ^ 2 = _; omega, show mk1 (n + 1) % 2 ^ 2 = 1 by show (4 * mk1 n + 1) % 2 ^ 2 = _; omega, Nat.and_one_is_mod]
      omega
    have e2 : sm 4 (n + 1) (fun j => X / 4 ^ j % 2 + X / 4 ^ j / 2 % 2) = (X % 2 + X / 2 % 2) + 4 * sm 4 n (fun j => X / 4 / 4 ^ j % 2 + X / 4 / 4 ^ j / 2 % 2) := by
      show (X / 4 ^ 0 % 2 + X / 4 ^ 0 / 2 % 2) + 4 * _ = _
      rw [show X / 4 ^ 0 = X by simp]
      congr 2
      apply sm_congr
      intro i _
      show X / 4 ^ (i + 1) % 2 + X / 4 ^ (i + 1) / 2 % 2 = _
      rw [show X / 4 / 4 ^ i = X / 4 ^ (i + 1) by rw [Nat.div_div_eq_div_mul, show 4 * 4 ^ i = 4 ^ (i + 1) by rw [Nat.pow_succ]; omega]]
    rw [e1, e2, ← e]
    generalize (X / 4 / 2 &&& mk1 n) = g at *
    constructor <;> omega
theorem bc_2 : ∀ (n : Nat) (d : Nat → Nat), (∀ i, d i ≤ 2) → ((sm 4 (2 * n) d) &&& mk3 n) + ((sm 4 (2 * n) d) / 4 &&& mk3 n) = sm 16 n (fun j => d (2 * j) + d (2 * j + 1))
  | 0, d, h => by simp [sm, mk3]
  | n + 1, d, h => by
    have ih := bc_2 n (fun i => d (i + 2)) (fun i => h _)
    have e0 : sm 4 (2 * (n + 1)) d = d 0 + 4 * d 1 + 16 * sm 4 (2 * n) (fun i => d (i + 2)) := by
      show d 0 + 4 * (d 1 + 4 * sm 4 (2 * n) (fun i => d (i + 2))) = _
      omega
    have e2 : sm 16 (n + 1) (fun j => d (2 * j) + d (2 * j + 1)) = (d 0 + d 1) + 16 * sm 16 n (fun j => d (2 * j + 2) + d (2 * j + 1 + 2)) := rfl
    rw [e0, e2, ← ih]
    generalize sm 4 (2 * n) (fun i => d (i + 2)) = V
    have h0 := h 0
    have h1 := h 1
    have em : mk3 (n + 1) = 16 * mk3 n + 3 := rfl
    have a3 : ∀ a, (a &&& 3) = a % 4 := fun a => Nat.and_two_pow_sub_one_eq_mod a 2
    rw [and_cut 4 (d 0 + 4 * d 1 + 16 * V), and_cut 4 ((d 0 + 4 * d 1 + 16 * V) / 4)]
    rw [show mk3 (n + 1) / 2 ^ 4 = mk3 n by omega, show mk3 (n + 1) % 2 ^ 4 = 3 by omega, a3, a3]
    rw [show (d 0 + 4 * d 1 + 16 * V) / 2 ^ 4 = V by omega, show (d 0 + 4 * d 1 + 16 * V) / 4 / 2 ^ 4 = V / 4 by omega]
    omega
theorem bc_3 : ∀ (n : Nat) (d : Nat → Nat), (∀ i, d i ≤ 4) → ((sm 16 (2 * n) d + (sm 16 (2 * n) d) / 16) &&& mkf n) = sm 256 n (fun j => d (2 * j) + d (2 * j + 1))
  | 0, d, h => by simp [sm, mkf]
  | n + 1, d, h => by
    have ih := bc_3 n (fun i => d (i + 2)) (fun i => h _)
    have e0 : sm 16 (2 * (n + 1)) d = d 0 + 16 * d 1 + 256 * sm 16 (2 * n) (fun i => d (i + 2)) := by
      show d 0 + 16 * (d 1 + 16 * sm 16 (2 * n) (fun i => d (i + 2))) = _
      omega
    have e2 : sm 256 (n + 1) (fun j => d (2 * j) + d (2 * j + 1)) = (d 0 + d 1) + 256 * sm 256 n (fun j => d (2 * j + 2) + d (2 * j + 1 + 2)) := rfl
    have hv : sm 16 (2 * n) (fun i => d (i + 2)) % 16 ≤ 4 := by
      cases n with
      | zero => simp [sm]
      | succ m =>
        have : sm 16 (2 * (m + 1)) (fun i => d (i + 2)) = d 2 + 16 * sm 16 (2 * m + 1) (fun i => d (i + 3)) := rfl
        have := h 2
        omega
    rw [e0, e2, ← ih]
    generalize sm 16 (2 * n) (fun i => d (i + 2)) = V at *
    have h0 := h 0
    have h1 := h 1
    have em : mkf (n + 1) = 256 * mkf n + 15 := rfl
    have a3 : ∀ a, (a &&& 15) = a % 16 := fun a => Nat.and_two_pow_sub_one_eq_mod a 4
    rw [and_cut 8 (d 0 + 16 * d 1 + 256 * V + _)]
    rw [show mkf (n + 1) / 2 ^ 8 = mkf n by omega, show mkf (n + 1) % 2 ^ 8 = 15 by omega, a3]
    rw [show (d 0 + 16 * d 1 + 256 * V + (d 0 + 16 * d 1 + 256 * V) / 16) / 2 ^ 8 = V + V / 16 by omega]
    omega
theorem bc_4 (d : Nat → Nat) (h : ∀ i, d i ≤ 8) : (((sm 256 8 d + sm 256 8 d / 256) + (sm 256 8 d + sm 256 8 d / 256) / 65536) + ((sm 256 8 d + sm 256 8 d / 256) + (sm 256 8 d + sm 256 8 d / 256) / 65536) / 4294967296) % 128 = d 0 + d 1 + d 2 + d 3 + d 4 + d 5 + d 6 + d 7 := by
  have e : sm 256 8 d = d 0 + 256 * (d 1 + 256 * (d 2 + 256 * (d 3 + 256 * (d 4 + 256 * (d 5 + 256 * (d 6 + 256 * (d 7 + 256 * 0))))))) := rfl
  have h0 := h 0
  have h1 := h 1
  have h2 := h 2
  have h3 := h 3
  have h4 := h 4
  have h5 := h 5
  have h6 := h 6
  have h7 := h 7
  rw [e]
  generalize d 0 = a0 at *
  generalize d 1 = a1 at *
  generalize d 2 = a2 at *
  generalize d 3 = a3 at *
  generalize d 4 = a4 at *
  generalize d 5 = a5 at *
  generalize d 6 = a6 at *
  generalize d 7 = a7 at *
  clear e h
  rw [Nat.mul_zero, Nat.add_zero]
  obtain ⟨T6, h6e⟩ : ∃ T, T = a6 + 256 * a7 := ⟨_, rfl⟩
  obtain ⟨T5, h5e⟩ : ∃ T, T = a5 + 256 * T6 := ⟨_, rfl⟩
  obtain ⟨T4, h4e⟩ : ∃ T, T = a4 + 256 * T5 := ⟨_, rfl⟩
  obtain ⟨T3, h3e⟩ : ∃ T, T = a3 + 256 * T4 := ⟨_, rfl⟩
  obtain ⟨T2, h2e⟩ : ∃ T, T = a2 + 256 * T3 := ⟨_, rfl⟩
  obtain ⟨T1, h1e⟩ : ∃ T, T = a1 + 256 * T2 := ⟨_, rfl⟩
  rw [← h6e, ← h5e, ← h4e, ← h3e, ← h2e, ← h1e]
  rw [show (a0 + 256 * T1) / 256 = T1 by clear h6e h5e h4e h3e h2e h1e; omega]
  obtain ⟨r, hr⟩ : ∃ r, r = (a0 + a1) + 256 * (a1 + a2) := ⟨_, rfl⟩
  rw [show a0 + 256 * T1 + T1 = r + 65536 * (T2 + T3) by clear h6e h5e h4e h3e; omega]
  rw [show (r + 65536 * (T2 + T3)) / 65536 = T2 + T3 by clear h6e h5e h4e h3e h2e h1e; omega]
  obtain ⟨z0, hz0⟩ : ∃ r, r = (a2 + a3) + 256 * (a3 + a4) := ⟨_, rfl⟩
  obtain ⟨z1, hz1⟩ : ∃ r, r = (a4 + a5) + 256 * (a5 + a6) := ⟨_, rfl⟩
  obtain ⟨Z1, hZ1⟩ : ∃ r, r = T4 + T5 := ⟨_, rfl⟩
  obtain ⟨Z2, hZ2⟩ : ∃ r, r = T6 + a7 := ⟨_, rfl⟩
  have q1 : T2 + T3 = z0 + 65536 * Z1 := by clear h6e h5e h1e hz1 hr; omega
  have q2 : Z1 = z1 + 65536 * Z2 := by clear h3e h2e h1e hz0 hr q1; omega
  have q3 : Z2 = a6 + a7 + 256 * a7 := by clear q1 q2 h3e h2e h1e hz0 hr h4e h5e; omega
  rw [q1]
  clear h6e h5e h4e h3e h2e h1e hZ1 hZ2 q1
  rw [show (r + 65536 * (z0 + 65536 * Z1) + (z0 + 65536 * Z1)) / 4294967296 = Z1 + Z2 by omega]
  omega
/-! the same, of longs -/
theorem bc_shr {x : Int64} {q : Nat} (h : q < 64) : (q_lushr x (nn q)).toBitVec.toNat = x.toBitVec.toNat / 2 ^ q := by
  have : (q_lushr x (nn q)).toBitVec = x.toBitVec >>> q := BitVec.eq_of_getLsbD_eq (fun i _ => by
    have := tb_ushr (x := x) (k := i) h
    unfold tb at this
    rw [this, BitVec.getLsbD_ushiftRight, Nat.add_comm])
  rw [this, BitVec.toNat_ushiftRight, Nat.shiftRight_eq_div_pow]
theorem bc_lim {B : Nat} (hB : 0 < B) : ∀ (n : Nat) (f : Nat → Nat), (∀ i, f i < B) → sm B n f < B ^ n
  | 0, _, _ => by simp [sm]
  | n + 1, f, h => by
    have := bc_lim hB n (fun i => f (i + 1)) (fun i => h _)
    have h0 := h 0
    show f 0 + B * _ < _
    rw [Nat.pow_succ, Nat.mul_comm (B ^ n)]
    have : B * (sm B n (fun i => f (i + 1)) + 1) ≤ B * B ^ n := Nat.mul_le_mul_left B (by omega)
    rw [Nat.mul_add] at this
    omega
def bc (x : Int64) : Nat := (List.range 64).countP (tb x)
theorem bc_sum (x : Int64) : bc x = sm 1 64 (fun i => x.toBitVec.toNat / 2 ^ i % 2) := by
  have h : ∀ (n : Nat) (f : Nat → Nat) (p : Nat → Bool), (∀ i, f i = if p i then 1 else 0) → sm 1 n f = (List.range n).countP p := by
    intro n
    induction n with
    | zero => intro f p _; rfl
    | succ n ih =>
      intro f p hf
      rw [List.range_succ_eq_map, List.countP_cons, List.countP_map]
      show f 0 + 1 * _ = _
      rw [ih _ (p ∘ Nat.succ) (fun i => hf (i + 1)), hf 0]
      omega
  unfold bc
  rw [h 64 _ (tb x)]
  intro i
  show _ = if x.toBitVec.toNat.testBit i then 1 else 0
  rw [Nat.testBit_eq_decide_div_mod_eq]
  rcases Nat.mod_two_eq_zero_or_one (x.toBitVec.toNat / 2 ^ i) with e | e <;> simp [e]
theorem sm1_8 (f : Nat → Nat) : sm 1 8 f = f 0 + f 1 + f 2 + f 3 + f 4 + f 5 + f 6 + f 7 := by
  simp only [sm, Nat.zero_add, Nat.reduceAdd]
  omega
theorem sm1_c (n m : Nat) : ∀ f : Nat → Nat, sm 1 (n + m) f = sm 1 n f + sm 1 m (fun i => f (n + i)) := by
  induction n with
  | zero => intro f; simp [sm]
  | succ n ih =>
    intro f
    rw [show n + 1 + m = (n + m) + 1 by omega]
    show f 0 + 1 * _ = f 0 + 1 * _ + _
    rw [ih, Nat.mul_add]
    simp only [show ∀ i, n + 1 + i = n + i + 1 from fun i => by omega]
    omega
theorem bc_fin (X : Nat) (d1 d2 d3 : Nat → Nat) (h1 : ∀ j, d1 j = X / 4 ^ j % 2 + X / 4 ^ j / 2 % 2) (h2 : ∀ j, d2 j = d1 (2 * j) + d1 (2 * j + 1)) (h3 : ∀ j, d3 j = d2 (2 * j) + d2 (2 * j + 1)) : d3 0 + d3 1 + d3 2 + d3 3 + d3 4 + d3 5 + d3 6 + d3 7 = sm 1 64 (fun i => X / 2 ^ i % 2) := by
  have e1 : ∀ j, d1 j = X / 2 ^ (2 * j) % 2 + X / 2 ^ (2 * j + 1) % 2 := by
    intro j
    rw [h1, show (4 : Nat) ^ j = 2 ^ (2 * j) by rw [Nat.pow_mul], Nat.div_div_eq_div_mul, Nat.pow_succ]
  have e3 : ∀ j, d3 j = sm 1 8 (fun i => X / 2 ^ (8 * j + i) % 2) := by
    intro j
    rw [h3, h2, h2, e1, e1, e1, e1, sm1_8]
    rw [show 2 * (2 * (2 * j)) = 8 * j by omega, show 2 * (2 * (2 * j) + 1) = 8 * j + 2 by omega, show 2 * (2 * (2 * j + 1)) = 8 * j + 4 by omega, show 2 * (2 * (2 * j + 1) + 1) = 8 * j + 6 by omega]
    simp only [Nat.add_assoc, Nat.add_zero, Nat.reduceAdd]
  rw [sm1_c 8 56, sm1_c 8 48, sm1_c 8 40, sm1_c 8 32, sm1_c 8 24, sm1_c 8 16, sm1_c 8 8]
  simp only [e3, ← Nat.add_assoc, Nat.reduceMul, Nat.reduceAdd, Nat.zero_add]
theorem bc_spec (x : Int64) (h : qa_M) : m_J13_bitCount_95d88 x h = some (nn (bc x), h) := by
  let X := x.toBitVec.toNat
  have hX : X < 2 ^ 64 := x.toBitVec.isLt
  obtain ⟨l1, e1⟩ := bc_1 32 X (by rw [show (4 : Nat) ^ 32 = 2 ^ 64 from rfl]; exact hX)
  let d1 : Nat → Nat := fun j => X / 4 ^ j % 2 + X / 4 ^ j / 2 % 2
  have hd1 : ∀ i, d1 i ≤ 2 := by intro i; show X / 4 ^ i % 2 + X / 4 ^ i / 2 % 2 ≤ 2; omega
  have e2 := bc_2 16 d1 hd1
  let d2 : Nat → Nat := fun j => d1 (2 * j) + d1 (2 * j + 1)
  have hd2 : ∀ i, d2 i ≤ 4 := by intro i; have := hd1 (2 * i); have := hd1 (2 * i + 1); show d1 (2 * i) + d1 (2 * i + 1) ≤ 4; omega
  have e3 := bc_3 8 d2 hd2
  let d3 : Nat → Nat := fun j => d2 (2 * j) + d2 (2 * j + 1)
  have hd3 : ∀ i, d3 i ≤ 8 := by intro i; have := hd2 (2 * i); have := hd2 (2 * i + 1); show d2 (2 * i) + d2 (2 * i + 1) ≤ 8; omega
  have e4 := bc_4 d3 hd3
  have lim1 := bc_lim (B := 4) (by omega) 32 d1 (fun i => by have := hd1 i; omega)
  have lim2 := bc_lim (B := 16) (by omega) 16 d2 (fun i => by have := hd2 i; omega)
  have lim3 := bc_lim (B := 256) (by omega) 8 d3 (fun i => by have := hd3 i; omega)
  have hm1 : mk1 32 = 6148914691236517205 := by decide +kernel
  have hm3 : mk3 16 = 3689348814741910323 := by decide +kernel
  have hmf : mkf 8 = 1085102592571150095 := by decide +kernel
  let v9 : Int64 := x - ((q_lushr x (1 : Int32)) &&& (6148914691236517205 : Int64))
  have n9 : v9.toBitVec.toNat = sm 4 32 d1 := by
    show (x - ((q_lushr x (nn 1)) &&& (6148914691236517205 : Int64))).toBitVec.toNat = _
    rw [Int64.toBitVec_sub, BitVec.toNat_sub, Int64.toBitVec_and, BitVec.toNat_and, bc_shr (by omega)]
    rw [show (6148914691236517205 : Int64).toBitVec.toNat = mk1 32 by rw [hm1]; rfl]
    rw [show sm 4 32 d1 = X - (X / 2 &&& mk1 32) from e1.symm]
    show (2 ^ 64 - (X / 2 ^ 1 &&& mk1 32) + X) % 2 ^ 64 = _
    rw [Nat.pow_one]
    generalize (X / 2 &&& mk1 32) = g at *
    omega
  let v23 : Int64 := (v9 &&& (3689348814741910323 : Int64)) + ((q_lushr v9 (2 : Int32)) &&& (3689348814741910323 : Int64))
  have n23 : v23.toBitVec.toNat = sm 16 16 d2 := by
    show ((v9 &&& (3689348814741910323 : Int64)) + ((q_lushr v9 (nn 2)) &&& (3689348814741910323 : Int64))).toBitVec.toNat = _
    rw [Int64.toBitVec_add, BitVec.toNat_add, Int64.toBitVec_and, BitVec.toNat_and, Int64.toBitVec_and, BitVec.toNat_and, bc_shr (by omega), n9]
    rw [show (3689348814741910323 : Int64).toBitVec.toNat = mk3 16 by rw [hm3]; rfl]
    rw [show (2 : Nat) ^ 2 = 4 from rfl]
    rw [show ((sm 4 32 d1 &&& mk3 16) + (sm 4 32 d1 / 4 &&& mk3 16)) = sm 16 16 d2 from e2]
    exact Nat.mod_eq_of_lt lim2
  let v33 : Int64 := (v23 + (q_lushr v23 (4 : Int32))) &&& (1085102592571150095 : Int64)
  have n33 : v33.toBitVec.toNat = sm 256 8 d3 := by
    show ((v23 + (q_lushr v23 (nn 4))) &&& (1085102592571150095 : Int64)).toBitVec.toNat = _
    rw [Int64.toBitVec_and, BitVec.toNat_and, Int64.toBitVec_add, BitVec.toNat_add, bc_shr (by omega), n23]
    rw [show (1085102592571150095 : Int64).toBitVec.toNat = mkf 8 by rw [hmf]; rfl]
    rw [show (2 : Nat) ^ 4 = 16 from rfl]
    have : sm 16 16 d2 = d2 0 + 16 * sm 16 15 (fun i => d2 (i + 1)) := rfl
    have l15 := bc_lim (B := 5) (by omega) 1 d2 (fun i => by have := hd2 i; omega)
    have lim16 : sm 16 16 d2 + sm 16 16 d2 / 16 < 2 ^ 64 := by
      have : sm 16 16 d2 ≤ 4 * sm 16 16 (fun _ => 1) := by
        exact sm_mono 4 16 d2 hd2
      have c : sm 16 16 (fun _ => 1) = 1229782938247303441 := by decide +kernel
      rw [c] at this
      omega
    rw [Nat.mod_eq_of_lt lim16]
    exact e3
  have lim8 : sm 256 8 d3 ≤ 8 * sm 256 8 (fun _ => 1) := by
    exact sm_mono 8 8 d3 hd3
  have c8 : sm 256 8 (fun _ => 1) = 72340172838076673 := by decide +kernel
  rw [c8] at lim8
  let v40 : Int64 := v33 + (q_lushr v33 (8 : Int32))
  have n40 : v40.toBitVec.toNat = sm 256 8 d3 + sm 256 8 d3 / 256 := by
    show (v33 + (q_lushr v33 (nn 8))).toBitVec.toNat = _
    rw [Int64.toBitVec_add, BitVec.toNat_add, bc_shr (by omega), n33]
    rw [show (2 : Nat) ^ 8 = 256 from rfl]
    omega
  let v47 : Int64 := v40 + (q_lushr v40 (16 : Int32))
  have n47 : v47.toBitVec.toNat = (sm 256 8 d3 + sm 256 8 d3 / 256) + (sm 256 8 d3 + sm 256 8 d3 / 256) / 65536 := by
    show (v40 + (q_lushr v40 (nn 16))).toBitVec.toNat = _
    rw [Int64.toBitVec_add, BitVec.toNat_add, bc_shr (by omega), n40]
    rw [show (2 : Nat) ^ 16 = 65536 from rfl]
    omega
  let v54 : Int64 := v47 + (q_lushr v47 (32 : Int32))
  have n54 : v54.toBitVec.toNat % 128 = d3 0 + d3 1 + d3 2 + d3 3 + d3 4 + d3 5 + d3 6 + d3 7 := by
    show (v47 + (q_lushr v47 (nn 32))).toBitVec.toNat % 128 = _
    rw [Int64.toBitVec_add, BitVec.toNat_add, bc_shr (by omega), n47]
    rw [show (2 : Nat) ^ 32 = 4294967296 from rfl]
    rw [Nat.mod_mod_of_dvd _ (by decide)]
    exact e4
  have fin : v54.toInt32 &&& (127 : Int32) = nn (v54.toBitVec.toNat % 128) := by
    rw [← Int32.toBitVec_inj, Int32.toBitVec_and]
    apply BitVec.eq_of_toNat_eq
    rw [BitVec.toNat_and]
    rw [show (127 : Int32).toBitVec.toNat = 2 ^ 7 - 1 from rfl, Nat.and_two_pow_sub_one_eq_mod]
    rw [show (v54.toInt32).toBitVec.toNat = v54.toBitVec.toNat % 2 ^ 32 by
      show (v54.toBitVec.signExtend 32).toNat = _
      rw [BitVec.signExtend_eq_setWidth_of_le _ (by omega), BitVec.toNat_setWidth]]
    show _ = (BitVec.ofNat 32 _).toNat
    rw [BitVec.toNat_ofNat]
    omega
  show some (v54.toInt32 &&& (127 : Int32), h) = _
  rw [fin, n54, bc_sum]
  exact congrArg (fun n => some (nn n, h)) (bc_fin X d1 d2 d3 (fun _ => rfl) (fun _ => rfl) (fun _ => rfl))
