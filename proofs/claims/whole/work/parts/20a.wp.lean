/-! WHAT A FUNCTION COMES TO -/
def qW {α : Type} (x : Option α) (P : α → Prop) : Prop := ∃ a, x = some a ∧ P a
theorem qW_some {α : Type} {a : α} {P : α → Prop} : qW (some a) P ↔ P a := by
  constructor
  · rintro ⟨b, e, p⟩
    cases e
    exact p
  · intro p
    exact ⟨a, rfl, p⟩
theorem qW_bd {α β : Type} {x : α} {K : α → Option β} {P : β → Prop} : qW (qbd x K) P ↔ qW (K x) P := Iff.rfl
theorem qW_nz {α : Type} {c : Prop} [Decidable c] {K : Option α} {P : α → Prop} : qW (qnz c K) P ↔ ¬ c ∧ qW K P := by
  constructor
  · rintro ⟨a, e, p⟩
    obtain ⟨hc, e⟩ := qnz_el e
    exact ⟨hc, a, e, p⟩
  · rintro ⟨hc, a, e, p⟩
    refine ⟨a, ?_, p⟩
    unfold qnz
    rw [if_neg hc, e]
theorem qW_pr {α : Type} {c : Prop} [Decidable c] {K : Option α} {P : α → Prop} : qW (qpr c K) P ↔ c ∧ qW K P := by
  constructor
  · rintro ⟨a, e, p⟩
    obtain ⟨hc, e⟩ := qpr_el e
    exact ⟨hc, a, e, p⟩
  · rintro ⟨hc, a, e, p⟩
    refine ⟨a, ?_, p⟩
    unfold qpr
    rw [if_pos hc, e]
theorem qW_ck {α : Type} {i : Int32} {n : Nat} {K : Option α} {P : α → Prop} : qW (qck i n K) P ↔ (0 ≤ i.toInt ∧ i.toInt < n) ∧ qW K P := by
  constructor
  · rintro ⟨a, e, p⟩
    obtain ⟨hc, e⟩ := qck_el e
    exact ⟨vp_in_iff.mp hc, a, e, p⟩
  · rintro ⟨hc, a, e, p⟩
    refine ⟨a, ?_, p⟩
    unfold qck
    rw [if_pos hc, e]
theorem qW_bn {α β : Type} {x : Option (β × qa_M)} {K : β → qa_M → Option α} {P : α → Prop} : qW (qbn x K) P ↔ qW x (fun q => qW (K q.1 q.2) P) := by
  constructor
  · rintro ⟨a, e, p⟩
    obtain ⟨r, h, e1, e⟩ := qbn_el e
    exact ⟨(r, h), e1, a, e, p⟩
  · rintro ⟨⟨r, h⟩, e1, a, e, p⟩
    refine ⟨a, ?_, p⟩
    unfold qbn
    rw [e1]
    exact e
theorem qW_bv {α : Type} {x : Option qa_M} {K : qa_M → Option α} {P : α → Prop} : qW (qbv x K) P ↔ qW x (fun q => qW (K q) P) := by
  constructor
  · rintro ⟨a, e, p⟩
    obtain ⟨h, e1, e⟩ := qbv_el e
    exact ⟨h, e1, a, e, p⟩
  · rintro ⟨h, e1, a, e, p⟩
    refine ⟨a, ?_, p⟩
    unfold qbv
    rw [e1]
    exact e
theorem qW_up {α β : Type} {x : Option β} {P : α ⊕ β → Prop} : qW (qup x) P ↔ qW x (fun r => P (.inr r)) := by
  constructor
  · rintro ⟨a, e, p⟩
    obtain ⟨r, ez, e1⟩ := qup_el e
    subst ez
    exact ⟨r, e1, p⟩
  · rintro ⟨r, e, p⟩
    refine ⟨.inr r, ?_, p⟩
    unfold qup
    rw [e]
theorem qW_ite {α : Type} {c : Prop} [Decidable c] {A B : Option α} {P : α → Prop} : qW (if c then A else B) P ↔ (c → qW A P) ∧ (¬ c → qW B P) := by
  by_cases h : c
  · rw [if_pos h]
    exact ⟨fun x => ⟨fun _ => x, fun n => absurd h n⟩, fun x => x.1 h⟩
  · rw [if_neg h]
    exact ⟨fun x => ⟨fun n => absurd n h, fun _ => x⟩, fun x => x.2 h⟩
theorem qW_nn {α : Type} {r : Nat} {K : Nat → Option α} {P : α → Prop} : qW (qnn (r + 1) K) P ↔ qW (K r) P := Iff.rfl
theorem qW_mono {α : Type} {x : Option α} {P Q : α → Prop} (h : qW x P) (k : ∀ a, P a → Q a) : qW x Q := by
  obtain ⟨a, e, p⟩ := h
  exact ⟨a, e, k a p⟩
theorem qW_eq {α : Type} {x : Option α} {a : α} : qW x (fun b => b = a) ↔ x = some a := by
  constructor
  · rintro ⟨b, e, rfl⟩
    exact e
  · intro e
    exact ⟨a, e, rfl⟩
theorem qW_of {α : Type} {x : Option α} {a : α} {P : α → Prop} (e : x = some a) (p : P a) : qW x P := ⟨a, e, p⟩
/-- a loop with a measure -/
theorem qW_lp {σ β : Type} {b : σ → Option (σ ⊕ β)} {P : β → Prop} (I : Nat → σ → Prop) (step : ∀ n s, I n s → qW (b s) (Sum.elim (fun s2 => ∃ m, m < n ∧ I m s2) P)) (n : Nat) : ∀ s, I n s → qW (qlp b s) P := by
  induction n using Nat.strongRecOn with
  | ind n ih =>
    intro s hs
    obtain ⟨a, e, p⟩ := step n s hs
    cases a with
    | inl s2 =>
      obtain ⟨m, hm, hI⟩ := p
      obtain ⟨r, e2, p2⟩ := ih m hm s2 hI
      refine ⟨r, ?_, p2⟩
      rw [qlp_eq, e]
      exact e2
    | inr r =>
      refine ⟨r, ?_, p⟩
      rw [qlp_eq, e]
/-- a loop that counts up -/
theorem qW_for {σ β : Type} {b : σ → Option (σ ⊕ β)} {P : β → Prop} (N : Nat) (I : Nat → σ → Prop) (step : ∀ k s, k < N → I k s → qW (b s) (Sum.elim (I (k + 1)) P)) (last : ∀ s, I N s → qW (b s) (Sum.elim (fun _ => False) P)) {k : Nat} (hk : k ≤ N) {s : σ} (h0 : I k s) : qW (qlp b s) P := by
  refine qW_lp (fun n s => n ≤ N ∧ I (N - n) s) ?_ (N - k) s ⟨by omega, by rw [show N - (N - k) = k by omega]; exact h0⟩
  rintro n s ⟨hn, hI⟩
  rcases Nat.eq_zero_or_pos n with rfl | hp
  · refine qW_mono (last s hI) ?_
    intro a p
    cases a with
    | inl => exact p.elim
    | inr => exact p
  · refine qW_mono (step (N - n) s (by omega) hI) ?_
    intro a p
    cases a with
    | inl => exact ⟨n - 1, by omega, by omega, by rw [show N - (n - 1) = N - n + 1 by omega]; exact p⟩
    | inr => exact p
theorem qlp_in {σ β : Type} {b : σ → Option (σ ⊕ β)} {s s2 : σ} (e : b s = some (.inl s2)) : qlp b s = qlp b s2 := by rw [qlp_eq, e]
theorem qlp_out {σ β : Type} {b : σ → Option (σ ⊕ β)} {s : σ} {r : β} (e : b s = some (.inr r)) : qlp b s = some r := by rw [qlp_eq, e]
theorem qW_lpin {σ β : Type} {b : σ → Option (σ ⊕ β)} {s : σ} {P : β → Prop} (h : qW (b s) (Sum.elim (fun s2 => qW (qlp b s2) P) P)) : qW (qlp b s) P := by
  obtain ⟨a, e, p⟩ := h
  rw [qlp_eq, e]
  cases a with
  | inl s2 => exact p
  | inr r => exact qW_some.mpr p
theorem qel_l {α β : Type} {f : α → Prop} {g : β → Prop} {a : α} : Sum.elim f g (.inl a) ↔ f a := Iff.rfl
theorem qel_r {α β : Type} {f : α → Prop} {g : β → Prop} {a : β} : Sum.elim f g (.inr a) ↔ g a := Iff.rfl
/-! SMALL NUMBERS -/
def nn (n : Nat) : Int32 := Int32.ofNat n
theorem nn_lit (n : Nat) [NeZero n] : (OfNat.ofNat n : Int32) = nn n := rfl
theorem nn_l0 : (0 : Int32) = nn 0 := rfl
theorem nn_l1 : (1 : Int32) = nn 1 := rfl
theorem nn_toInt {n : Nat} (h : n < 2147483648) : (nn n).toInt = n := by
  unfold nn
  rw [Int32.toInt_ofNat_of_lt (by simpa using h)]
theorem nn_cl {n : Nat} (h : n < 2147483648) : (nn n).toNatClampNeg = n := by
  rw [Int32.toNatClampNeg, nn_toInt h]
  rfl
theorem nn_add (a b : Nat) : nn a + nn b = nn (a + b) := by unfold nn; rw [Int32.ofNat_add]
theorem nn_mul (a b : Nat) : nn a * nn b = nn (a * b) := by unfold nn; rw [Int32.ofNat_mul]
theorem nn_sub {a b : Nat} (h : b ≤ a) : nn a - nn b = nn (a - b) := by
  have : nn (a - b) + nn b = nn a := by rw [nn_add]; congr 1; omega
  rw [← this, Int32.add_sub_cancel]
theorem nn_le {a b : Nat} (ha : a < 2147483648) (hb : b < 2147483648) : (nn a ≤ nn b) ↔ a ≤ b := by
  rw [Int32.le_iff_toInt_le, nn_toInt ha, nn_toInt hb]; omega
theorem nn_lt {a b : Nat} (ha : a < 2147483648) (hb : b < 2147483648) : (nn a < nn b) ↔ a < b := by
  rw [Int32.lt_iff_toInt_lt, nn_toInt ha, nn_toInt hb]; omega
theorem nn_eq {a b : Nat} (ha : a < 2147483648) (hb : b < 2147483648) : (nn a = nn b) ↔ a = b := by
  rw [← Int32.toInt_inj, nn_toInt ha, nn_toInt hb]; omega
theorem nn_div {a b : Nat} (ha : a < 2147483648) (hb : b < 2147483648) : nn a / nn b = nn (a / b) := by
  rw [← Int32.toInt_inj, Int32.toInt_div, nn_toInt ha, nn_toInt hb, nn_toInt (by have := Nat.div_le_self a b; omega)]
  have := Nat.div_le_self a b
  rw [← Int.ofNat_tdiv]
  generalize a / b = c at *
  rw [Int.bmod_eq_of_le] <;> omega
theorem nn_mod {a b : Nat} (ha : a < 2147483648) (hb : b < 2147483648) : nn a % nn b = nn (a % b) := by
  have := Nat.mod_le a b
  rw [← Int32.toInt_inj, Int32.toInt_mod, nn_toInt ha, nn_toInt hb, nn_toInt (by omega)]
  rfl
theorem nn_n1 : ¬ ((0 : Int32) ≤ -1) := by decide
theorem nn_nneg {a : Nat} (ha : a < 2147483648) : ¬ (nn a < 0) := by
  rw [nn_l0, nn_lt ha (by omega)]; omega
theorem nn_nn {a : Nat} (ha : a < 2147483648) : (0 : Int32) ≤ nn a := by
  rw [nn_l0, nn_le (by omega) ha]; omega
theorem qW_cn {α : Type} {i n : Nat} {K : Option α} {P : α → Prop} (hi : i < 2147483648) : qW (qck (nn i) n K) P ↔ i < n ∧ qW K P := by
  rw [qW_ck, nn_toInt hi]
  constructor
  · rintro ⟨⟨_, b⟩, w⟩; exact ⟨by omega, w⟩
  · rintro ⟨b, w⟩; exact ⟨⟨by omega, by omega⟩, w⟩
/-- every non-negative number is small -/
theorem nn_of {x : Int32} (h : 0 ≤ x.toInt) : ∃ n, n < 2147483648 ∧ x = nn n := by
  have := x.toInt_lt
  refine ⟨x.toInt.toNat, by omega, ?_⟩
  rw [← Int32.toInt_inj, nn_toInt (by omega)]
  omega
theorem nn_cases (x : Int32) : (x < 0) ∨ ∃ n, n < 2147483648 ∧ x = nn n := by
  by_cases h : x < 0
  · exact .inl h
  · refine .inr (nn_of ?_)
    rw [Int32.lt_iff_toInt_lt] at h
    have : (0 : Int32).toInt = 0 := rfl
    omega
