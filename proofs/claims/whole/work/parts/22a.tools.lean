/-! RULES FOR FUNCTIONS AS EQUATIONS -/
def bi (b : Bool) : Int32 := if b then 1 else 0
theorem bi_t : bi true = 1 := rfl
theorem bi_f : bi false = 0 := rfl
theorem bi_e0 {b : Bool} : (bi b = 0) ↔ (b = false) := by cases b <;> decide
theorem bi_e1 {b : Bool} : (bi b = 1) ↔ (b = true) := by cases b <;> decide
theorem bi_01 {b : Bool} : (bi b = 0 ∨ bi b = 1) := by cases b <;> decide
theorem bi_nn {b : Bool} : bi b = nn (if b then 1 else 0) := by cases b <;> rfl
theorem ite_bi {p : Prop} [Decidable p] {h : qa_M} : (if p then some ((1 : Int32), h) else some ((0 : Int32), h)) = some (bi (decide p), h) := by
  by_cases q : p <;> simp [q, bi]
theorem ite_ib {p : Prop} [Decidable p] {h : qa_M} : (if p then some ((0 : Int32), h) else some ((1 : Int32), h)) = some (bi (!decide p), h) := by
  by_cases q : p <;> simp [q, bi]
theorem qck_nn {α : Type} {i n : Nat} {K : Option α} (hi : i < n) (hn : n ≤ 2147483648) : qck (nn i) n K = K := by
  unfold qck
  rw [if_pos]
  rw [nn_toInt (by omega)]
  omega
theorem qck_ok {α : Type} {i : Int32} {n : Nat} {K : Option α} (h : 0 ≤ i.toInt ∧ i.toInt < n) : qck i n K = K := if_pos h
theorem qpr_t {α : Type} {c : Prop} [Decidable c] {K : Option α} (h : c) : qpr c K = K := if_pos h
theorem qnz_f {α : Type} {c : Prop} [Decidable c] {K : Option α} (h : ¬ c) : qnz c K = K := if_neg h
theorem qbn_s {α β : Type} {a : β} {h : qa_M} {K : β → qa_M → Option α} : qbn (some (a, h)) K = K a h := rfl
theorem qbv_s {α : Type} {h : qa_M} {K : qa_M → Option α} : qbv (some h) K = K h := rfl
theorem qup_s {α β : Type} {r : β} : (qup (some r) : Option (α ⊕ β)) = some (.inr r) := rfl
theorem qbd_e {α β : Type} {x : α} {K : α → β} : qbd x K = K x := rfl
theorem qnn_s {α : Type} {r : Nat} {K : Nat → Option α} : qnn (r + 1) K = K r := rfl
theorem qbn_x {α β : Type} {a : β} {h : qa_M} {K : β → qa_M → Option α} : qbn (some (a, h)) K = K a h := Eq.trans rfl rfl
theorem qbv_x {α : Type} {h : qa_M} {K : qa_M → Option α} : qbv (some h) K = K h := Eq.trans rfl rfl
theorem qup_x {α β : Type} {r : β} : (qup (some r) : Option (α ⊕ β)) = some (.inr r) := Eq.trans rfl rfl
theorem qbd_x {α β : Type} {x : α} {K : α → β} : qbd x K = K x := Eq.trans rfl rfl
theorem lx0 : (0 : Int32).toNatClampNeg = 0 := Eq.trans rfl rfl
theorem lx1 : (1 : Int32).toNatClampNeg = 1 := Eq.trans rfl rfl
theorem lx2 : (2 : Int32).toNatClampNeg = 2 := Eq.trans rfl rfl
theorem lx3 : (3 : Int32).toNatClampNeg = 3 := Eq.trans rfl rfl
theorem lx4 : (4 : Int32).toNatClampNeg = 4 := Eq.trans rfl rfl
theorem lx5 : (5 : Int32).toNatClampNeg = 5 := Eq.trans rfl rfl
theorem lx6 : (6 : Int32).toNatClampNeg = 6 := Eq.trans rfl rfl
theorem lx7 : (7 : Int32).toNatClampNeg = 7 := Eq.trans rfl rfl
theorem lx8 : (8 : Int32).toNatClampNeg = 8 := Eq.trans rfl rfl
theorem lx9 : (9 : Int32).toNatClampNeg = 9 := Eq.trans rfl rfl
theorem lx10 : (10 : Int32).toNatClampNeg = 10 := Eq.trans rfl rfl
theorem nn_lit' (n : Nat) : (OfNat.ofNat n : Int32) = nn n := rfl
theorem nn_add1 (a : Nat) : nn a + 1 = nn (a + 1) := nn_add a 1
/-- a loop that counts up, its states known -/
theorem qlp_for {σ β : Type} {b : σ → Option (σ ⊕ β)} {r : β} (S : Nat → σ) (N : Nat) (step : ∀ k, k < N → b (S k) = some (.inl (S (k + 1)))) (last : b (S N) = some (.inr r)) : ∀ k, k ≤ N → qlp b (S k) = some r := by
  intro k hk
  obtain ⟨m, hm⟩ : ∃ m, m = N - k := ⟨_, rfl⟩
  induction m generalizing k with
  | zero =>
    have : k = N := by omega
    subst this
    exact qlp_out last
  | succ m ih =>
    rw [qlp_in (step k (by omega))]
    exact ih (k + 1) (by omega) (by omega)
theorem qlp_for0 {σ β : Type} {b : σ → Option (σ ⊕ β)} {r : β} (S : Nat → σ) (N : Nat) (step : ∀ k, k < N → b (S k) = some (.inl (S (k + 1)))) (last : b (S N) = some (.inr r)) : qlp b (S 0) = some r := qlp_for S N step last 0 (by omega)
/-- the first one for which something holds -/
theorem first_of (p : Nat → Bool) (n : Nat) : (∃ k, k < n ∧ p k = true ∧ ∀ j, j < k → p j = false) ∨ (∀ j, j < n → p j = false) := by
  induction n with
  | zero => exact .inr (fun j hj => absurd hj (by omega))
  | succ n ih =>
    rcases ih with ⟨k, hk, a, b⟩ | q
    · exact .inl ⟨k, by omega, a, b⟩
    · cases e : p n with
      | true => exact .inl ⟨n, by omega, e, q⟩
      | false =>
        refine .inr (fun j hj => ?_)
        rcases Nat.lt_or_ge j n with h | h
        · exact q j h
        · rw [show j = n by omega]; exact e
/-- its number, or none -/
def fst (p : Nat → Bool) : Nat → Nat → Option Nat
  | _, 0 => none
  | k, n + 1 => if p k then some k else fst p (k + 1) n
def fstI (p : Nat → Bool) (n : Nat) : Int32 := match fst p 0 n with
  | some k => nn k
  | none => -1
theorem fst_some {p : Nat → Bool} : ∀ (n k j : Nat), k ≤ j → j < k + n → p j = true → (∀ i, k ≤ i → i < j → p i = false) → fst p k n = some j
  | 0, k, j, h1, h2, _, _ => by omega
  | n + 1, k, j, h1, h2, h3, h4 => by
    unfold fst
    rcases Nat.eq_or_lt_of_le h1 with e | e
    · subst e; rw [if_pos h3]
    · rw [if_neg (by rw [h4 k (by omega) e]; decide)]
      exact fst_some n (k + 1) j e (by omega) h3 (fun i a b => h4 i (by omega) b)
theorem fst_none {p : Nat → Bool} : ∀ (n k : Nat), (∀ i, k ≤ i → i < k + n → p i = false) → fst p k n = none
  | 0, k, _ => rfl
  | n + 1, k, h => by
    unfold fst
    rw [if_neg (by rw [h k (by omega) (by omega)]; decide)]
    exact fst_none n (k + 1) (fun i a b => h i (by omega) (by omega))
theorem fstI_some {p : Nat → Bool} {n k : Nat} (h : k < n) (a : p k = true) (b : ∀ j, j < k → p j = false) : fstI p n = nn k := by
  unfold fstI
  rw [fst_some n 0 k (by omega) (by omega) a (fun i _ q => b i q)]
theorem fstI_none {p : Nat → Bool} {n : Nat} (h : ∀ j, j < n → p j = false) : fstI p n = -1 := by
  unfold fstI
  rw [fst_none n 0 (fun i _ q => h i (by omega))]
theorem nn_ne1 {k : Nat} (h : k < 2147483648) : nn k ≠ -1 := by
  intro e
  have := congrArg Int32.toInt e
  rw [nn_toInt h] at this
  have h2 : (-1 : Int32).toInt = -1 := rfl
  omega
theorem fstI_m1 {p : Nat → Bool} {n : Nat} (hn : n < 2147483648) : (fstI p n = -1) ↔ ∀ j, j < n → p j = false := by
  rcases first_of p n with ⟨k, hk, a, b⟩ | q
  · rw [fstI_some hk a b]
    constructor
    · intro e; exact absurd e (nn_ne1 (by omega))
    · intro e; rw [e k hk] at a; cases a
  · rw [fstI_none q]
    exact ⟨fun _ => q, fun _ => rfl⟩
/-! masks -/
def mkm (p : Nat → Bool) : Nat → Int64
  | 0 => 0
  | n + 1 => mkm p n ||| (if p n then q_lshl 1 (nn n) else 0)
theorem tb_mkm {p : Nat → Bool} : ∀ {n : Nat}, n ≤ 64 → ∀ k, tb (mkm p n) k = (decide (k < n) && p k)
  | 0, _, k => by simp [mkm, tb_zero]
  | n + 1, h, k => by
    unfold mkm
    rw [tb_or, tb_mkm (by omega) k]
    by_cases e : k = n
    · subst e
      cases q : p k
      · simp [tb_zero]
      · simp [tb_bit (show k < 64 by omega)]
    · have : decide (k < n + 1) = decide (k < n) := by rw [Bool.eq_iff_iff]; simp; omega
      rw [this]
      cases q : p n
      · simp [tb_zero]
      · simp [tb_bit (show n < 64 by omega), e]
theorem mkm_congr {p q : Nat → Bool} : ∀ {n : Nat}, (∀ k, k < n → p k = q k) → mkm p n = mkm q n
  | 0, _ => rfl
  | n + 1, h => by
    unfold mkm
    rw [mkm_congr (fun k hk => h k (by omega)), h n (by omega)]
theorem mkm_of {x : Int64} {p : Nat → Bool} {n : Nat} (hn : n ≤ 64) (h : ∀ k, k < 64 → tb x k = (decide (k < n) && p k)) : x = mkm p n := tb_ext (fun k hk => by rw [h k hk, tb_mkm hn])
/-- with frames -/
theorem qW_fr {α : Type} {x : Option α} {P Q R : α → Prop} (h : qW x P) (f : ∀ a, x = some a → Q a) (k : ∀ a, P a → Q a → R a) : qW x R := by
  obtain ⟨a, e, p⟩ := h
  exact ⟨a, e, k a p (f a e)⟩
theorem qW_bM {α : Type} {x : qa_M} {K : qa_M → Option α} {P : α → Prop} (h : ∀ y, y = x → qW (K y) P) : qW (qbd x K) P := h x rfl
/-! ranges -/
theorem r_in {x lo hi : Int64} {h : qa_M} : m_X12_in x lo hi h = some (bi (decide (lo.toInt ≤ x.toInt ∧ x.toInt ≤ hi.toInt)), h) := by
  unfold m_X12_in
  by_cases a : x < lo
  · rw [if_pos a]
    rw [Int64.lt_iff_toInt_lt] at a
    rw [decide_eq_false (by omega)]
    rfl
  · rw [if_neg a]
    rw [Int64.lt_iff_toInt_lt] at a
    by_cases b : hi < x
    · rw [if_pos b]
      rw [Int64.lt_iff_toInt_lt] at b
      rw [decide_eq_false (by omega)]
      rfl
    · rw [if_neg b]
      rw [Int64.lt_iff_toInt_lt] at b
      rw [decide_eq_true (by omega)]
      rfl
theorem r_within {x y : Int32} {h : qa_M} : m_X11_within x y h = some (bi (decide (0 ≤ x.toInt ∧ x.toInt < y.toInt)), h) := by
  have z : (0 : Int32).toInt = 0 := rfl
  unfold m_X11_within
  by_cases a : x < 0
  · rw [if_pos a]
    rw [Int32.lt_iff_toInt_lt] at a
    rw [decide_eq_false (by omega)]
    rfl
  · rw [if_neg a]
    rw [Int32.lt_iff_toInt_lt] at a
    by_cases b : y ≤ x
    · rw [if_pos b]
      rw [Int32.le_iff_toInt_le] at b
      rw [decide_eq_false (by omega)]
      rfl
    · rw [if_neg b]
      rw [Int32.le_iff_toInt_le] at b
      rw [decide_eq_true (by omega)]
      rfl
theorem nn_64i {n : Nat} (h : n < 2147483648) : (nn n).toInt64.toInt = n := by rw [Int32.toInt_toInt64, nn_toInt h]
theorem i64_i {x : Int32} : x.toInt64.toInt = x.toInt := Int32.toInt_toInt64 x
theorem nn_m1 {n : Nat} (h : n < 2147483648) : (nn n - 1).toInt = (n : Int) - 1 := by
  rcases Nat.eq_zero_or_pos n with e | e
  · subst e; rfl
  · rw [show (1 : Int32) = nn 1 from rfl, nn_sub e, nn_toInt (by omega)]
    omega
theorem nn_rem {a b : Nat} (ha : a < 2147483648) (hb : b < 2147483648) : nn a - nn a / nn b * nn b = nn (a % b) := by
  have := Nat.div_mul_le_self a b
  rw [nn_div ha hb, nn_mul, nn_sub this]
  congr 1
  have := Nat.div_add_mod a b
  rw [Nat.mul_comm] at this
  omega
theorem nn_r6 {a : Nat} (ha : a < 2147483648) : nn a - nn a / 6 * 6 = nn (a % 6) := nn_rem (b := 6) ha (by omega)
theorem nn_d6 {a : Nat} (ha : a < 2147483648) : nn a / 6 = nn (a / 6) := nn_div (b := 6) ha (by omega)
theorem r_has {x : Int64} {q : Nat} {h : qa_M} (hq : q < 64) : m_X12_has x (nn q) h = some (bi (tb x q), h) := by
  unfold m_X12_has
  rw [ite_bi]
  congr 2
  cases e : tb x q
  · rw [decide_eq_false]
    rw [tb_s1 hq, e]
    decide
  · rw [decide_eq_true]
    rw [tb_s1 hq, e]
theorem r_has32 {n q : Nat} {h : qa_M} (hn : n < 2147483648) (hq : q < 64) : m_X12_has (nn n).toInt64 (nn q) h = some (bi (n.testBit q), h) := by
  rw [r_has hq, tb_s32 hn]
