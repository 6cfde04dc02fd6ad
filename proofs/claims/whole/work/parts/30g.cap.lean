/-! WALKS: SUMS AND LEAST ONES, WITH 'NEVER' -/
def oad : Option Nat → Option Nat → Option Nat
  | some a, some b => some (a + b)
  | _, _ => none
def omn : Option Nat → Option Nat → Option Nat
  | none, b => b
  | some a, none => some a
  | some a, some b => some (min a b)
theorem oad_n {b : Option Nat} : oad none b = none := by cases b <;> rfl
theorem omn_n {a : Option Nat} : omn a none = a := by cases a <;> rfl
/-- a number that stands for one, or for never -/
def vN (C : Nat) : Option Nat → Nat
  | none => C
  | some a => a
theorem oN_v {C : Nat} {o : Option Nat} : oN (nn C) o = nn (vN C o) := by cases o <;> rfl
theorem vN_mn {C v : Nat} {old d : Option Nat} (h1 : ∀ a, old = some a → a < C) (h2 : ∀ a, d = some a → v + a < C) : min (vN C old) (v + vN C d) = vN C (omn old (oad (some v) d)) := by
  cases old with
  | none =>
    cases d with
    | none => show min C (v + C) = C; omega
    | some b => have := h2 b rfl; show min C (v + b) = v + b; omega
  | some a =>
    have := h1 a rfl
    cases d with
    | none => show min a (v + C) = a; omega
    | some b => rfl
theorem vN_le {C : Nat} {o : Option Nat} (h : ∀ a, o = some a → a < C) : vN C o ≤ C := by
  cases o with
  | none => exact Nat.le_refl _
  | some a => exact Nat.le_of_lt (h a rfl)
/-- the class's -/
theorem k_mn {C v : Nat} {old d : Option Nat} (hC : C < 1073741824) (hv : v < 1073741824) (h1 : ∀ a, old = some a → a < C) (h2 : ∀ a, d = some a → v + a < C) : q_min (oN (nn C) old) (nn v + oN (nn C) d) = oN (nn C) (omn old (oad (some v) d)) := by
  have l1 := vN_le h1
  have l2 : vN C d ≤ C := vN_le (fun a e => by have := h2 a e; omega)
  rw [oN_v, oN_v, oN_v, nn_add, nn_qmin (by omega) (by omega), vN_mn h1 h2]
/-- the reference's -/
theorem r_mn {C v : Nat} {old d : Option Nat} (hC : C < 1073741824) (hv : v < 1073741824) (h1 : ∀ a, old = some a → a < C) (h2 : ∀ a, d = some a → v + a < C) : (if oN (nn C) old ≤ nn v + oN (nn C) d then oN (nn C) old else nn v + oN (nn C) d) = oN (nn C) (omn old (oad (some v) d)) := by
  have l1 := vN_le h1
  have l2 : vN C d ≤ C := vN_le (fun a e => by have := h2 a e; omega)
  rw [oN_v, oN_v, oN_v, nn_add, ← vN_mn h1 h2]
  by_cases c : vN C old ≤ v + vN C d
  · rw [if_pos ((nn_le (by omega) (by omega)).mpr c), Nat.min_eq_left c]
  · rw [if_neg (fun q => c ((nn_le (by omega) (by omega)).mp q)), Nat.min_eq_right (by omega)]
theorem hw_lt {s : Sg} {a i d : Nat} (h : hw s a i 36 = some d) : d < 36 := fsA_lt h
