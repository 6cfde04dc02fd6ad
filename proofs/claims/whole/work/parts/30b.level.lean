/-! WALKS: HOW FAR -/
theorem opM_tb {s : Sg} {q : Nat} (h : q < 36) : tb (opM s) q = opn s q := by
  unfold opM opn
  rw [tb_and, tb_not (by omega), tb_mkm (by omega), tb_mkm (by omega), decide_eq_true h, Bool.true_and, Bool.true_and]
theorem rm_hi {s : Sg} {a : Nat} (ha : a < 36) : ∀ {k q : Nat}, 36 ≤ q → tb (rm s a k) q = false
  | 0, q, h => by
    show tb (q_lshl 1 (nn a)) q = false
    rw [tb_bit (by omega), decide_eq_false (by omega)]
  | k + 1, q, h => by
    show tb (rm s a k ||| (grw (rm s a k) &&& opM s)) q = false
    rw [tb_or, tb_and, rm_hi ha h, Bool.false_or]
    cases e : tb (grw (rm s a k)) q with
    | false => rfl
    | true =>
      have := ((tb_grw (fun k hk => rm_hi ha hk) q).mp e).1
      omega
theorem rm_0 {s : Sg} {a q : Nat} (ha : a < 36) : tb (rm s a 0) q = true ↔ q = a := by
  show tb (q_lshl 1 (nn a)) q = true ↔ _
  rw [tb_bit (by omega), decide_eq_true_eq]
theorem rm_s {s : Sg} {a k q : Nat} (ha : a < 36) : tb (rm s a (k + 1)) q = true ↔ tb (rm s a k) q = true ∨ (q < 36 ∧ opn s q = true ∧ ∃ o, o < 36 ∧ tb (rm s a k) o = true ∧ ds o q ≤ 1) := by
  show tb (rm s a k ||| (grw (rm s a k) &&& opM s)) q = true ↔ _
  rw [tb_or, tb_and, Bool.or_eq_true, Bool.and_eq_true, tb_grw (fun k hk => rm_hi ha hk)]
  constructor
  · rintro (h | ⟨⟨h1, h2⟩, h3⟩)
    · exact .inl h
    · rw [opM_tb h1] at h3
      exact .inr ⟨h1, h3, h2⟩
  · rintro (h | ⟨h1, h2, h3⟩)
    · exact .inl h
    · exact .inr ⟨⟨h1, h3⟩, by rw [opM_tb h1]; exact h2⟩
theorem rm_mono {s : Sg} {a q : Nat} (ha : a < 36) {k : Nat} (h : tb (rm s a k) q = true) : ∀ m, tb (rm s a (k + m)) q = true
  | 0 => h
  | m + 1 => (rm_s ha).mpr (.inl (rm_mono ha h m))
/-- what a table of distances must keep -/
def LV (s : Sg) (a : Nat) (D : Nat → Option Nat) : Prop := D a = some 0 ∧ (∀ q d, q < 36 → D q = some d → (q = a ∧ d = 0) ∨ (opn s q = true ∧ ∃ p d2, p < 36 ∧ ds p q ≤ 1 ∧ D p = some d2 ∧ d = d2 + 1)) ∧ ∀ p q d, p < 36 → q < 36 → D p = some d → opn s q = true → ds p q ≤ 1 → ∃ d2, d2 ≤ d + 1 ∧ D q = some d2
theorem LV_up {s : Sg} {a : Nat} {D : Nat → Option Nat} (ha : a < 36) (lv : LV s a D) : ∀ k q, q < 36 → tb (rm s a k) q = true → ∃ d, d ≤ k ∧ D q = some d
  | 0, q, hq, h => by
    rw [rm_0 ha] at h
    subst h
    exact ⟨0, Nat.le_refl _, lv.1⟩
  | k + 1, q, hq, h => by
    rcases (rm_s ha).mp h with h | ⟨h1, h2, o, h3, h4, h5⟩
    · obtain ⟨d, d1, d2⟩ := LV_up ha lv k q hq h
      exact ⟨d, by omega, d2⟩
    · obtain ⟨d, d1, d2⟩ := LV_up ha lv k o h3 h4
      obtain ⟨d3, d4, d5⟩ := lv.2.2 o q d h3 hq d2 h2 h5
      exact ⟨d3, by omega, d5⟩
theorem LV_dn {s : Sg} {a : Nat} {D : Nat → Option Nat} (ha : a < 36) (lv : LV s a D) : ∀ d q, q < 36 → D q = some d → tb (rm s a d) q = true
  | d, q, hq, h => by
    rcases lv.2.1 q d hq h with ⟨h1, h2⟩ | ⟨h1, p, d2, h2, h3, h4, h5⟩
    · subst h2
      exact (rm_0 ha).mpr h1
    · subst h5
      exact (rm_s ha).mpr (.inr ⟨hq, h1, p, h2, LV_dn ha lv d2 p h2 h4, h3⟩)
theorem LV_is {s : Sg} {a : Nat} {D : Nat → Option Nat} (ha : a < 36) (lv : LV s a D) {q : Nat} (hq : q < 36) (h36 : ∀ d, D q = some d → d < 36) : fsA (fun k => tb (rm s a k) q) 36 = D q := by
  have all : ∀ n, fsA (fun k => tb (rm s a k) q) n = (match D q with
    | some d => if d < n then some d else none
    | none => none) := by
    intro n
    have up := fun k => LV_up ha lv k q hq
    have dn := fun d => LV_dn ha lv d q hq
    revert up dn
    cases D q with
    | none =>
      intro up _
      induction n with
      | zero => rfl
      | succ n ih =>
        have e : tb (rm s a n) q = false := by
          cases e : tb (rm s a n) q with
          | false => rfl
          | true =>
            obtain ⟨d, -, h⟩ := up n e
            cases h
        rw [fsA_f (p := fun k => tb (rm s a k) q) e, ih]
    | some d =>
      intro up dn
      show _ = if d < n then some d else none
      induction n with
      | zero => rfl
      | succ n ih =>
        by_cases c : d < n
        · rw [if_pos c] at ih
          rw [fsA_s ih, if_pos (by omega)]
        · rw [if_neg c] at ih
          by_cases c2 : d = n
          · subst c2
            rw [fsA_n (p := fun k => tb (rm s a k) q) ih (dn d rfl), if_pos (by omega)]
          · have e : tb (rm s a n) q = false := by
              cases e : tb (rm s a n) q with
              | false => rfl
              | true =>
                obtain ⟨d2, h1, h2⟩ := up n e
                cases h2
                omega
            rw [fsA_f (p := fun k => tb (rm s a k) q) e, ih, if_neg (by omega)]
  rw [all 36]
  cases e : D q with
  | none => rfl
  | some d => exact if_pos (h36 d e)
