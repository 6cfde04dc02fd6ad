/-! WALKS: THE TABLE OF TOURS, AS AN EQUATION -/
def mnK (F : Nat → Option Nat) : Nat → Option Nat
  | 0 => none
  | n + 1 => omn (mnK F n) (F n)
theorem mnK_congr {F G : Nat → Option Nat} : ∀ {n : Nat}, (∀ b, b < n → F b = G b) → mnK F n = mnK G n
  | 0, _ => rfl
  | n + 1, h => by
    unfold mnK
    rw [mnK_congr (fun b hb => h b (by omega)), h n (by omega)]
theorem mnK_more {F : Nat → Option Nat} {n : Nat} : ∀ (d : Nat), (∀ b, n ≤ b → b < n + d → F b = none) → mnK F (n + d) = mnK F n
  | 0, _ => rfl
  | d + 1, h => by
    show omn (mnK F (n + d)) (F (n + d)) = _
    rw [h (n + d) (by omega) (by omega), omn_n, mnK_more d (fun b h1 h2 => h b h1 (by omega))]
theorem omn_as {a b c : Option Nat} : omn (omn a b) c = omn a (omn b c) := by
  cases a with
  | none => rfl
  | some a =>
    cases b with
    | none => rfl
    | some b =>
      cases c with
      | none => rfl
      | some c =>
        show some (min (min a b) c) = some (min a (min b c))
        congr 1
        omega
theorem omn_cm {a b : Option Nat} : omn a b = omn b a := by
  cases a with
  | none => cases b <;> rfl
  | some a =>
    cases b with
    | none => rfl
    | some b =>
      show some (min a b) = some (min b a)
      congr 1
      omega
theorem omn_cases {a b : Option Nat} {v : Nat} (h : omn a b = some v) : a = some v ∨ b = some v := by
  cases a with
  | none => exact .inr h
  | some a =>
    cases b with
    | none => exact .inl h
    | some b =>
      have h : some (min a b) = some v := h
      have h := Option.some.inj h
      rcases Nat.le_total a b with c | c
      · exact .inl (by rw [← h, Nat.min_eq_left c])
      · exact .inr (by rw [← h, Nat.min_eq_right c])
theorem mnK_mem {F : Nat → Option Nat} {v : Nat} : ∀ {n : Nat}, mnK F n = some v → ∃ b, b < n ∧ F b = some v
  | 0, h => by cases h
  | n + 1, h => by
    rcases omn_cases h with e | e
    · obtain ⟨b, h1, h2⟩ := mnK_mem e
      exact ⟨b, by omega, h2⟩
    · exact ⟨n, by omega, e⟩
theorem mnK_up {F : Nat → Option Nat} {a : Nat} {v : Option Nat} : ∀ {n : Nat}, mnK (fun b => if b = a then omn (F a) v else F b) n = if a < n then omn (mnK F n) v else mnK F n
  | 0 => by rw [if_neg (by omega)]; rfl
  | n + 1 => by
    show omn (mnK _ n) (if n = a then _ else _) = _
    rw [mnK_up (n := n)]
    by_cases c : n = a
    · subst c
      rw [if_neg (by omega), if_pos rfl, if_pos (by omega), ← omn_as]
      rfl
    · rw [if_neg c]
      by_cases c2 : a < n
      · rw [if_pos c2, if_pos (by omega), omn_as, omn_cm (a := v), ← omn_as]
        rfl
      · rw [if_neg c2, if_neg (by omega)]
        rfl
theorem xr_bit {k a j : Nat} : (k ^^^ 2 ^ a).testBit j = (k.testBit j ^^ decide (a = j)) := by rw [Nat.testBit_xor, Nat.testBit_two_pow]
theorem xr_or {k a : Nat} (h : k.testBit a = true) : (k ^^^ 2 ^ a) ||| 2 ^ a = k := by
  apply Nat.eq_of_testBit_eq
  intro j
  rw [or_bit, xr_bit]
  by_cases c : a = j
  · subst c; simp [h]
  · simp [c]
theorem or_xr {m a : Nat} (h : m.testBit a = false) : (m ||| 2 ^ a) ^^^ 2 ^ a = m := by
  apply Nat.eq_of_testBit_eq
  intro j
  rw [xr_bit, or_bit]
  by_cases c : a = j
  · subst c; simp [h]
  · simp [c]
theorem xr_f {k a : Nat} (h : k.testBit a = true) : (k ^^^ 2 ^ a).testBit a = false := by rw [xr_bit]; simp [h]
theorem xr_lt {k a : Nat} (h : k.testBit a = true) : k ^^^ 2 ^ a < k := by
  have := or_self (xr_f h)
  rw [xr_or h] at this
  exact this
theorem or_add : ∀ a, a < 8 → ∀ k, k < 256 → k.testBit a = false → k ||| 2 ^ a = k + 2 ^ a := by decide +kernel
theorem or_256 {m a : Nat} (hm : m < 256) (ha : a < 8) : m ||| 2 ^ a < 256 := Nat.or_lt_two_pow (n := 8) hm (Nat.pow_lt_pow_right (by omega) ha)
def ini (m0 s0 k a : Nat) : Option Nat := if k = m0 ∧ a = s0 then some 0 else none
def prT (d T : Nat → Nat → Option Nat) (k a b : Nat) : Option Nat := oad (T (k ^^^ 2 ^ a) b) (d b a)
def eqT (W m0 s0 : Nat) (d T : Nat → Nat → Option Nat) (cut : Nat → Nat → Nat) : Prop := ∀ k a, k < 256 → a < 8 → T k a = omn (ini m0 s0 k a) (if k.testBit a && W.testBit a then mnK (prT d T k a) (cut (k ^^^ 2 ^ a) a) else none)
def cutS (m f j p a : Nat) : Nat := if p < m then 8 else if p = m then (if a < j then f + 1 else f) else 0
def upT (T : Nat → Nat → Option Nat) (k a : Nat) (v : Option Nat) : Nat → Nat → Option Nat := fun k2 a2 => if k2 = k ∧ a2 = a then v else T k2 a2
theorem cutS_s {m f j p a : Nat} (h : a ≠ j) : cutS m f (j + 1) p a = cutS m f j p a := by
  unfold cutS
  by_cases c : a < j
  · rw [if_pos c, if_pos (show a < j + 1 by omega)]
  · rw [if_neg c, if_neg (show ¬ a < j + 1 by omega)]
theorem cutS_n {m f j p a : Nat} (h : p ≠ m) : cutS m f (j + 1) p a = cutS m f j p a := by
  unfold cutS
  rw [if_neg h, if_neg h]
theorem eqT_0 {W m0 s0 : Nat} {d : Nat → Nat → Option Nat} : eqT W m0 s0 d (ini m0 s0) (cutS 0 0 0) := by
  intro k a hk ha
  have : cutS 0 0 0 (k ^^^ 2 ^ a) a = 0 := by unfold cutS; rw [if_neg (by omega)]; by_cases c : k ^^^ 2 ^ a = 0 <;> simp [c]
  rw [this]
  show _ = omn _ (if _ then none else none)
  by_cases c : (k.testBit a && W.testBit a) = true
  · rw [if_pos c, omn_n]
  · rw [if_neg c, omn_n]
/-- only the cuts of real predecessors count -/
theorem eqT_cut {W m0 s0 : Nat} {d T : Nat → Nat → Option Nat} {c1 c2 : Nat → Nat → Nat} (e : eqT W m0 s0 d T c1) (h : ∀ p a, a < 8 → W.testBit a = true → p.testBit a = false → mnK (fun b => oad (T p b) (d b a)) (c2 p a) = mnK (fun b => oad (T p b) (d b a)) (c1 p a)) : eqT W m0 s0 d T c2 := by
  intro k a hk ha
  rw [e k a hk ha]
  by_cases c : (k.testBit a && W.testBit a) = true
  · rw [if_pos c, if_pos c]
    rw [Bool.and_eq_true] at c
    exact congrArg _ (h _ a ha c.2 (xr_f c.1)).symm
  · rw [if_neg c, if_neg c]
theorem eqT_skip {W m0 s0 m f j : Nat} {d T : Nat → Nat → Option Nat} (e : eqT W m0 s0 d T (cutS m f j)) (h : (W.testBit j && !m.testBit j) = false) : eqT W m0 s0 d T (cutS m f (j + 1)) := by
  refine eqT_cut e (fun p a ha hW hp => ?_)
  have : cutS m f (j + 1) p a = cutS m f j p a := by
    by_cases c : p = m
    · subst c
      refine cutS_s ?_
      intro q
      subst q
      rw [hW, hp] at h
      cases h
    · exact cutS_n c
  rw [this]
theorem eqT_row {W m0 s0 m f N : Nat} {d T : Nat → Nat → Option Nat} (e : eqT W m0 s0 d T (cutS m f N)) (hN : ∀ a, W.testBit a = true → a < N) : eqT W m0 s0 d T (cutS m (f + 1) 0) := by
  refine eqT_cut e (fun p a ha hW hp => ?_)
  have : cutS m (f + 1) 0 p a = cutS m f N p a := by
    unfold cutS
    rw [if_pos (hN a hW), if_neg (show ¬ a < 0 by omega)]
  rw [this]
theorem eqT_exit {W m0 s0 m f j : Nat} {d T : Nat → Nat → Option Nat} (e : eqT W m0 s0 d T (cutS m f j)) (h : T m f = none) : eqT W m0 s0 d T (cutS m (f + 1) 0) := by
  refine eqT_cut e (fun p a ha hW hp => ?_)
  unfold cutS
  rw [if_neg (show ¬ a < 0 by omega)]
  by_cases c : p < m
  · rw [if_pos c, if_pos c]
  · rw [if_neg c, if_neg c]
    by_cases c2 : p = m
    · subst c2
      rw [if_pos rfl, if_pos rfl]
      by_cases c3 : a < j
      · rw [if_pos c3]
      · rw [if_neg c3]
        show omn _ (oad (T p f) _) = _
        rw [h, oad_n, omn_n]
    · rw [if_neg c2, if_neg c2]
theorem eqT_key {W m0 s0 m N : Nat} {d T : Nat → Nat → Option Nat} (e : eqT W m0 s0 d T (cutS m N 0)) (hN : N ≤ 8) (h : ∀ b, N ≤ b → b < 8 → T m b = none) : eqT W m0 s0 d T (cutS (m + 1) 0 0) := by
  refine eqT_cut e (fun p a ha hW hp => ?_)
  unfold cutS
  rw [if_neg (show ¬ a < 0 by omega)]
  by_cases c : p < m
  · rw [if_pos c, if_pos (by omega)]
  · by_cases c2 : p = m
    · subst c2
      rw [if_neg c, if_pos rfl, if_pos (by omega)]
      obtain ⟨x, hx⟩ : ∃ x, 8 = N + x := ⟨8 - N, by omega⟩
      rw [hx]
      refine mnK_more x (fun b h1 h2 => ?_)
      show oad (T p b) _ = none
      rw [h b h1 (by omega), oad_n]
    · rw [if_neg c, if_neg c2, if_neg (by omega)]
      by_cases c3 : p = m + 1
      · rw [if_pos c3]
      · rw [if_neg c3]
theorem eqT_step {W m0 s0 m f j : Nat} {d T : Nat → Nat → Option Nat} (e : eqT W m0 s0 d T (cutS m f j)) (hW : W.testBit j = true) (hn : m.testBit j = false) : eqT W m0 s0 d (upT T (m ||| 2 ^ j) j (omn (T (m ||| 2 ^ j) j) (oad (T m f) (d f j)))) (cutS m f (j + 1)) := by
  intro k a hk ha
  have hlt := or_self hn
  obtain ⟨V, hV⟩ : ∃ V, V = omn (T (m ||| 2 ^ j) j) (oad (T m f) (d f j)) := ⟨_, rfl⟩
  rw [← hV]
  have key : ∀ p b, p ≤ m → upT T (m ||| 2 ^ j) j V p b = T p b := fun p b hp => if_neg (by omega)
  by_cases c : k = m ||| 2 ^ j ∧ a = j
  · obtain ⟨rfl, rfl⟩ := c
    have hb : (m ||| 2 ^ a).testBit a = true := by rw [or_bit]; simp
    have e0 := e (m ||| 2 ^ a) a hk ha
    rw [hb, hW, Bool.and_self, if_pos rfl] at e0 ⊢
    have c1 : cutS m f a ((m ||| 2 ^ a) ^^^ 2 ^ a) a = f := by rw [or_xr hn]; unfold cutS; simp
    have c2 : cutS m f (a + 1) ((m ||| 2 ^ a) ^^^ 2 ^ a) a = f + 1 := by rw [or_xr hn]; unfold cutS; simp
    rw [c1] at e0
    rw [c2]
    show (if _ ∧ _ then _ else _) = omn _ (omn (mnK _ f) (oad _ _))
    have e1 : V = omn (ini m0 s0 (m ||| 2 ^ a) a) (omn (mnK (prT d T (m ||| 2 ^ a) a) f) (oad (T m f) (d f a))) := by rw [hV, e0, omn_as]
    rw [if_pos ⟨rfl, rfl⟩, or_xr hn, key m f (Nat.le_refl _)]
    refine e1.trans ?_
    congr 2
    refine mnK_congr (fun b hb => ?_)
    unfold prT
    rw [or_xr hn, key m b (Nat.le_refl _)]
  · have e0 := e k a hk ha
    have h0 : upT T (m ||| 2 ^ j) j V k a = T k a := if_neg c
    rw [h0, e0]
    by_cases c1 : (k.testBit a && W.testBit a) = true
    · rw [if_pos c1, if_pos c1]
      rw [Bool.and_eq_true] at c1
      have hx := xr_or c1.1
      obtain ⟨p, hp⟩ : ∃ p, p = k ^^^ 2 ^ a := ⟨_, rfl⟩
      rw [← hp] at hx ⊢
      have hc : cutS m f (j + 1) p a = cutS m f j p a := by
        by_cases c2 : p = m
        · subst c2
          exact cutS_s (fun q => c ⟨by rw [← hx, q], q⟩)
        · exact cutS_n c2
      rw [hc]
      congr 1
      by_cases c3 : p ≤ m
      · refine mnK_congr (fun b hb => ?_)
        unfold prT
        rw [← hp, key p b c3]
      · have : cutS m f j p a = 0 := by unfold cutS; rw [if_neg (by omega), if_neg (by omega)]
        rw [this]
        rfl
    · rw [if_neg c1, if_neg c1]
/-- what stays none -/
theorem eqT_none {W m0 s0 N : Nat} {d T : Nat → Nat → Option Nat} {c : Nat → Nat → Nat} (e : eqT W m0 s0 d T c) (hN : ∀ a, W.testBit a = true → a < N) (h0 : s0 < N) {k a : Nat} (hk : k < 256) (h1 : N ≤ a) (h2 : a < 8) : T k a = none := by
  rw [e k a hk h2]
  have : W.testBit a = false := by
    cases q : W.testBit a with
    | false => rfl
    | true => have := hN a q; omega
  rw [this, Bool.and_false, if_neg (by decide), omn_n]
  unfold ini
  rw [if_neg (by omega)]
def bdT (T : Nat → Nat → Option Nat) : Prop := ∀ k a v, T k a = some v → v ≤ 36 * k
theorem bdT_0 {m0 s0 : Nat} : bdT (ini m0 s0) := by
  intro k a v h
  unfold ini at h
  by_cases c : k = m0 ∧ a = s0
  · rw [if_pos c] at h
    have := Option.some.inj h
    omega
  · rw [if_neg c] at h
    cases h
theorem bdT_step {m f j : Nat} {d T : Nat → Nat → Option Nat} (b : bdT T) (hd : ∀ i j v, d i j = some v → v < 36) (hn : m.testBit j = false) : bdT (upT T (m ||| 2 ^ j) j (omn (T (m ||| 2 ^ j) j) (oad (T m f) (d f j)))) := by
  intro k a v h
  have hlt := or_self hn
  unfold upT at h
  by_cases c : k = m ||| 2 ^ j ∧ a = j
  · rw [if_pos c] at h
    rcases omn_cases h with e | e
    · rw [c.1]
      exact b _ _ _ e
    · cases e1 : T m f with
      | none => rw [e1, oad_n] at e; cases e
      | some x =>
        cases e2 : d f j with
        | none => rw [e1, e2] at e; cases e
        | some y =>
          rw [e1, e2] at e
          have e : x + y = v := Option.some.inj e
          have h1 := b _ _ _ e1
          have h2 := hd _ _ _ e2
          have := c.1
          omega
  · rw [if_neg c] at h
    exact b k a v h
/-! two such tables are alike -/
theorem tour_eq {W m0 s0 M : Nat} {d T U : Nat → Nat → Option Nat} {c1 c2 : Nat → Nat → Nat} (e1 : eqT W m0 s0 d T c1) (e2 : eqT W m0 s0 d U c2) (h1 : ∀ p a, p ≤ M → c1 p a = 8) (h2 : ∀ p a, p ≤ M → c2 p a = 8) (hM : M < 256) : ∀ k, k ≤ M → ∀ a, a < 8 → T k a = U k a := by
  intro k
  induction k using Nat.strongRecOn with
  | ind k ih =>
    intro hk a ha
    rw [e1 k a (by omega) ha, e2 k a (by omega) ha]
    by_cases c : (k.testBit a && W.testBit a) = true
    · rw [if_pos c, if_pos c]
      rw [Bool.and_eq_true] at c
      have hl := xr_lt c.1
      rw [h1 _ a (by omega), h2 _ a (by omega)]
      congr 1
      refine mnK_congr (fun b hb => ?_)
      unfold prT
      rw [ih _ hl (by omega) b hb]
    · rw [if_neg c, if_neg c]
/-- a key without the start stays empty in the class's table -/
theorem tour_no {W s0 M : Nat} {d T : Nat → Nat → Option Nat} {c : Nat → Nat → Nat} (e : eqT W (2 ^ s0) s0 d T c) (h1 : ∀ p a, p ≤ M → c p a = 8) (hM : M < 256) : ∀ k, k ≤ M → k.testBit s0 = false → ∀ a, a < 8 → T k a = none := by
  intro k
  induction k using Nat.strongRecOn with
  | ind k ih =>
    intro hk hs a ha
    rw [e k a (by omega) ha]
    have hi : ini (2 ^ s0) s0 k a = none := by
      unfold ini
      rw [if_neg]
      rintro ⟨q, -⟩
      rw [q, Nat.testBit_two_pow_self] at hs
      cases hs
    rw [hi]
    show (if _ then _ else _) = none
    by_cases c : (k.testBit a && W.testBit a) = true
    · rw [if_pos c]
      rw [Bool.and_eq_true] at c
      have hl := xr_lt c.1
      rw [h1 _ a (by omega)]
      have := mnK_more (F := prT d T k a) (n := 0) 8 (fun b _ hb => by
        unfold prT
        rw [ih _ hl (by omega) (by rw [xr_bit, hs]; simp; rintro rfl; rw [hs] at c; exact absurd c.1 (by decide)) b (by omega), oad_n])
      exact this
    · rw [if_neg c]
theorem tour_sub {W s0 : Nat} {d T U : Nat → Nat → Option Nat} {c1 c2 : Nat → Nat → Nat} (hs : W.testBit s0 = false) (h8 : s0 < 8) (e1 : eqT W 0 s0 d T c1) (e2 : eqT (W ||| 2 ^ s0) (2 ^ s0) s0 d U c2) (h1 : ∀ p a, p ≤ W → c1 p a = 8) (h2 : ∀ p a, p ≤ W ||| 2 ^ s0 → c2 p a = 8) (hM : W < 256) : ∀ k, k ≤ W → k.testBit s0 = false → ∀ a, a < 8 → T k a = U (k ||| 2 ^ s0) a := by
  have hor : ∀ k, k ≤ W → k.testBit s0 = false → k ||| 2 ^ s0 = k + 2 ^ s0 := fun k hk hb => or_add s0 h8 k (by omega) hb
  have hF := or_256 hM h8
  intro k
  induction k using Nat.strongRecOn with
  | ind k ih =>
    intro hk hks a ha
    have hkF : k ||| 2 ^ s0 ≤ W ||| 2 ^ s0 := by rw [hor k hk hks, hor W (Nat.le_refl _) hs]; omega
    rw [e1 k a (by omega) ha, e2 (k ||| 2 ^ s0) a (by omega) ha]
    have hi : ini (2 ^ s0) s0 (k ||| 2 ^ s0) a = ini 0 s0 k a := by
      unfold ini
      rw [hor k hk hks]
      by_cases c : k = 0 ∧ a = s0
      · rw [if_pos c, if_pos (by omega)]
      · rw [if_neg c, if_neg (by omega)]
    rw [hi]
    congr 1
    by_cases ca : a = s0
    · subst ca
      rw [hks, Bool.false_and, if_neg (by decide), if_pos (by rw [or_bit, or_bit]; simp), or_xr hks, h2 k a (by have : W ≤ W ||| 2 ^ a := Nat.left_le_or; omega)]
      have := mnK_more (F := prT d U (k ||| 2 ^ a) a) (n := 0) 8 (fun b _ hb => by
        unfold prT
        rw [or_xr hks, tour_no e2 h2 hF k (by have : W ≤ W ||| 2 ^ a := Nat.left_le_or; omega) hks b (by omega), oad_n])
      exact this.symm
    · have b1 : (k ||| 2 ^ s0).testBit a = k.testBit a := by rw [or_bit]; simp [Ne.symm ca]
      have b2 : (W ||| 2 ^ s0).testBit a = W.testBit a := by rw [or_bit]; simp [Ne.symm ca]
      rw [b1, b2]
      by_cases c : (k.testBit a && W.testBit a) = true
      · rw [if_pos c, if_pos c]
        rw [Bool.and_eq_true] at c
        have hl := xr_lt c.1
        have hp : (k ^^^ 2 ^ a).testBit s0 = false := by rw [xr_bit, hks]; simp [ca]
        have hx : (k ||| 2 ^ s0) ^^^ 2 ^ a = (k ^^^ 2 ^ a) ||| 2 ^ s0 := by
          apply Nat.eq_of_testBit_eq
          intro j
          rw [xr_bit, or_bit, or_bit, xr_bit]
          by_cases c1 : a = j
          · subst c1; simp [Ne.symm ca]
          · simp [c1]
        rw [h1 _ a (by omega), hx, h2 _ a (by rw [hor _ (by omega) hp, hor W (Nat.le_refl _) hs]; omega)]
        refine mnK_congr (fun b hb => ?_)
        unfold prT
        rw [hx, ih _ hl (by omega) hp b hb]
      · rw [if_neg c, if_neg c]
/-- the answers are alike -/
theorem tour_same {W s0 N : Nat} {d T U : Nat → Nat → Option Nat} {c1 c2 : Nat → Nat → Nat} (h8 : s0 < N) (hN : N ≤ 8) (hW : W < 256) (hw : ∀ a, W.testBit a = true → a < N) (e1 : eqT W (2 ^ s0 &&& W) s0 d T c1) (e2 : eqT (W ||| 2 ^ s0) (2 ^ s0) s0 d U c2) (h1 : ∀ p a, p ≤ 255 → c1 p a = 8) (h2 : ∀ p a, p ≤ W ||| 2 ^ s0 → c2 p a = 8) : mnK (T W) 8 = mnK (U (W ||| 2 ^ s0)) N := by
  have hF := or_256 hW (show s0 < 8 by omega)
  have hwF : ∀ a, (W ||| 2 ^ s0).testBit a = true → a < N := by
    intro a q
    rw [or_bit, Bool.or_eq_true] at q
    rcases q with q | q
    · exact hw a q
    · have := of_decide_eq_true q; omega
  obtain ⟨x, hx⟩ : ∃ x, 8 = N + x := ⟨8 - N, by omega⟩
  have hm : mnK (U (W ||| 2 ^ s0)) 8 = mnK (U (W ||| 2 ^ s0)) N := by
    rw [hx]
    exact mnK_more x (fun b h1 h2 => eqT_none e2 hwF h8 hF h1 (by omega))
  rw [← hm]
  refine mnK_congr (fun a ha => ?_)
  cases hs : W.testBit s0 with
  | true =>
    have q1 : W ||| 2 ^ s0 = W := by
      apply Nat.eq_of_testBit_eq
      intro j
      rw [or_bit]
      by_cases c : s0 = j
      · subst c; simp [hs]
      · simp [c]
    have q2 : 2 ^ s0 &&& W = 2 ^ s0 := by
      apply Nat.eq_of_testBit_eq
      intro j
      rw [Nat.testBit_and, Nat.testBit_two_pow]
      by_cases c : s0 = j
      · subst c; simp [hs]
      · simp [c]
    rw [q1] at e2 h2 ⊢
    rw [q2] at e1
    exact tour_eq e1 e2 (fun p a hp => h1 p a (by omega)) h2 hW W (Nat.le_refl _) a ha
  | false =>
    have q2 : 2 ^ s0 &&& W = 0 := by
      apply Nat.eq_of_testBit_eq
      intro j
      rw [Nat.testBit_and, Nat.testBit_two_pow, Nat.zero_testBit]
      by_cases c : s0 = j
      · subst c; simp [hs]
      · simp [c]
    rw [q2] at e1
    exact tour_sub hs (by omega) e1 e2 (fun p a hp => h1 p a (by omega)) h2 hW W (Nat.le_refl _) hs a ha
