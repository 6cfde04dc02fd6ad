/-! LAYINGS: lists of squares, the last thing's first -/
def cand (ok : List Nat → Nat → Bool) (st : List Nat) (k : Nat) : List Nat := ((List.range 36).drop k).filter (ok st)
def lays (ok : List Nat → Nat → Bool) : Nat → List Nat → List (List Nat)
  | 0, st => [st]
  | m + 1, st => (cand ok st 0).flatMap (fun q => lays ok m (q :: st))
def laysF (ok : List Nat → Nat → Bool) (m : Nat) (st : List Nat) (k : Nat) : List (List Nat) := (cand ok st k).flatMap (fun q => lays ok m (q :: st))
/-- what is still to come: n things, a stack, where the next one is looked for -/
def Rm (ok : List Nat → Nat → Bool) (n : Nat) : List Nat → Nat → List (List Nat)
  | [], k => laysF ok (n - 1) [] k
  | q :: st, k => laysF ok (n - 1 - (st.length + 1)) (q :: st) k ++ Rm ok n st (q + 1)
theorem cand_end {ok : List Nat → Nat → Bool} {st : List Nat} {k : Nat} (h : 36 ≤ k) : cand ok st k = [] := by
  unfold cand
  rw [List.drop_eq_nil_of_le (by simpa using h)]
  rfl
theorem drop_r {k : Nat} (h : k < 36) : (List.range 36).drop k = k :: (List.range 36).drop (k + 1) := by
  rw [List.drop_eq_getElem_cons (by simpa using h)]
  simp
theorem cand_t {ok : List Nat → Nat → Bool} {st : List Nat} {k : Nat} (h : k < 36) (e : ok st k = true) : cand ok st k = k :: cand ok st (k + 1) := by
  unfold cand
  rw [drop_r h, List.filter_cons_of_pos e]
theorem cand_f {ok : List Nat → Nat → Bool} {st : List Nat} {k : Nat} (h : k < 36) (e : ok st k = false) : cand ok st k = cand ok st (k + 1) := by
  unfold cand
  rw [drop_r h, List.filter_cons_of_neg (by rw [e]; decide)]
theorem cand_skip {ok : List Nat → Nat → Bool} {st : List Nat} : ∀ (d k : Nat), (∀ j, k ≤ j → j < k + d → ok st j = false) → cand ok st k = cand ok st (k + d)
  | 0, k, _ => rfl
  | d + 1, k, h => by
    have h2 : cand ok st (k + 1) = cand ok st (k + 1 + d) := cand_skip d (k + 1) (fun j a b => h j (by omega) (by omega))
    rw [show k + (d + 1) = k + 1 + d by omega, ← h2]
    by_cases c : k < 36
    · exact cand_f c (h k (by omega) (by omega))
    · rw [cand_end (by omega), cand_end (by omega)]
theorem cand_mem {ok : List Nat → Nat → Bool} {st : List Nat} {k q : Nat} (h : q ∈ cand ok st k) : q < 36 ∧ ok st q = true := by
  unfold cand at h
  rw [List.mem_filter] at h
  exact ⟨by simpa using List.mem_of_mem_drop h.1, h.2⟩
theorem laysF_0 {ok : List Nat → Nat → Bool} {m : Nat} {st : List Nat} : lays ok (m + 1) st = laysF ok m st 0 := rfl
theorem laysF_end {ok : List Nat → Nat → Bool} {m : Nat} {st : List Nat} {k : Nat} (h : 36 ≤ k) : laysF ok m st k = [] := by
  unfold laysF
  rw [cand_end h]
  rfl
theorem laysF_t {ok : List Nat → Nat → Bool} {m : Nat} {st : List Nat} {k : Nat} (h : k < 36) (e : ok st k = true) : laysF ok m st k = lays ok m (k :: st) ++ laysF ok m st (k + 1) := by
  unfold laysF
  rw [cand_t h e]
  rfl
theorem laysF_skip {ok : List Nat → Nat → Bool} {m : Nat} {st : List Nat} (d k : Nat) (h : ∀ j, k ≤ j → j < k + d → ok st j = false) : laysF ok m st k = laysF ok m st (k + d) := by
  unfold laysF
  rw [cand_skip d k h]
/-- the next square, or none -/
theorem cand_cases (ok : List Nat → Nat → Bool) (st : List Nat) (k : Nat) : (∃ q, k ≤ q ∧ q < 36 ∧ ok st q = true ∧ ∀ j, k ≤ j → j < q → ok st j = false) ∨ (∀ j, k ≤ j → j < 36 → ok st j = false) := by
  rcases first_of (fun i => decide (k ≤ i) && ok st i) 36 with ⟨q, h1, h2, h3⟩ | h
  · left
    rw [Bool.and_eq_true, decide_eq_true_eq] at h2
    refine ⟨q, h2.1, h1, h2.2, fun j a b => ?_⟩
    have := h3 j b
    rw [decide_eq_true a, Bool.true_and] at this
    exact this
  · right
    intro j a b
    have := h j b
    rw [decide_eq_true a, Bool.true_and] at this
    exact this
/-! the remaining ones, a step at a time -/
theorem Rm_skip {ok : List Nat → Nat → Bool} {n : Nat} {st : List Nat} {k q : Nat} (hk : k ≤ q) (h : ∀ j, k ≤ j → j < q → ok st j = false) : Rm ok n st k = Rm ok n st q := by
  obtain ⟨d, rfl⟩ : ∃ d, q = k + d := ⟨q - k, by omega⟩
  cases st with
  | nil => exact laysF_skip d k h
  | cons a st =>
    unfold Rm
    rw [laysF_skip d k h]
theorem Rm_pop {ok : List Nat → Nat → Bool} {n a : Nat} {st : List Nat} : Rm ok n (a :: st) 36 = Rm ok n st (a + 1) := by
  show laysF ok _ _ 36 ++ _ = _
  rw [laysF_end (Nat.le_refl _)]
  rfl
theorem Rm_end {ok : List Nat → Nat → Bool} {n : Nat} : Rm ok n [] 36 = [] := laysF_end (Nat.le_refl _)
theorem Rm_take {ok : List Nat → Nat → Bool} {n : Nat} {st : List Nat} {q : Nat} (h : q < 36) (e : ok st q = true) (hl : st.length + 1 ≤ n) : Rm ok n st q = lays ok (n - 1 - st.length) (q :: st) ++ Rm ok n st (q + 1) := by
  cases st with
  | nil =>
    show laysF ok (n - 1) [] q = _
    rw [laysF_t h e]
    rfl
  | cons a st =>
    show laysF ok (n - 1 - (st.length + 1)) (a :: st) q ++ _ = _
    rw [laysF_t h e, List.append_assoc]
    rfl
theorem Rm_leaf {ok : List Nat → Nat → Bool} {n : Nat} {st : List Nat} {q : Nat} (h : q < 36) (e : ok st q = true) (hl : st.length + 1 = n) : Rm ok n st q = (q :: st) :: Rm ok n st (q + 1) := by
  rw [Rm_take h e (by omega), show n - 1 - st.length = 0 by omega]
  rfl
theorem Rm_push {ok : List Nat → Nat → Bool} {n : Nat} {st : List Nat} {q k : Nat} (h : q < 36) (e : ok st q = true) (hl : st.length + 2 ≤ n) (hk : ∀ j, j < k → ok (q :: st) j = false) : Rm ok n st q = Rm ok n (q :: st) k := by
  rw [Rm_take h e (by omega)]
  obtain ⟨m, hm⟩ : ∃ m, n - 1 - st.length = m + 1 := ⟨n - 2 - st.length, by omega⟩
  rw [hm, laysF_0, laysF_skip k 0 (fun j _ b => hk j (by omega)), Nat.zero_add]
  show _ = laysF ok (n - 1 - (st.length + 1)) (q :: st) k ++ Rm ok n st (q + 1)
  rw [show n - 1 - (st.length + 1) = m by omega]
theorem lays_mem {ok : List Nat → Nat → Bool} : ∀ {m : Nat} {st l : List Nat}, l ∈ lays ok m st → l.length = st.length + m
  | 0, st, l, h => by
    have : l = st := by simpa [lays] using h
    subst this
    rfl
  | m + 1, st, l, h => by
    rw [laysF_0] at h
    unfold laysF at h
    rw [List.mem_flatMap] at h
    obtain ⟨q, hq, hl⟩ := h
    rw [lays_mem hl, List.length_cons]
    omega
/-- all squares that were chosen were good -/
def good (ok : List Nat → Nat → Bool) : List Nat → Prop
  | [] => True
  | q :: st => q < 36 ∧ ok st q = true ∧ good ok st
theorem lays_good {ok : List Nat → Nat → Bool} : ∀ {m : Nat} {st l : List Nat}, good ok st → l ∈ lays ok m st → good ok l
  | 0, st, l, g, h => by
    have : l = st := by simpa [lays] using h
    subst this
    exact g
  | m + 1, st, l, g, h => by
    rw [laysF_0] at h
    unfold laysF at h
    rw [List.mem_flatMap] at h
    obtain ⟨q, hq, hl⟩ := h
    obtain ⟨a, b⟩ := cand_mem hq
    exact lays_good (st := q :: st) ⟨a, b, g⟩ hl
/-- how many there can be -/
theorem cand_len {ok : List Nat → Nat → Bool} {st : List Nat} {k : Nat} : (cand ok st k).length ≤ 36 := by
  unfold cand
  refine Nat.le_trans (List.length_filter_le _ _) ?_
  rw [List.length_drop, List.length_range]
  omega
theorem flat_len {α β : Type} {f : α → List β} {c : Nat} : ∀ {l : List α}, (∀ x, x ∈ l → (f x).length ≤ c) → (l.flatMap f).length ≤ l.length * c
  | [], _ => by simp
  | x :: l, h => by
    have ih := flat_len (f := f) (c := c) (l := l) (fun y hy => h y (List.mem_cons_of_mem _ hy))
    have h0 := h x List.mem_cons_self
    rw [List.flatMap_cons, List.length_append, List.length_cons, Nat.add_mul]
    omega
theorem lays_len {ok : List Nat → Nat → Bool} : ∀ {m : Nat} {st : List Nat}, (lays ok m st).length ≤ 36 ^ m
  | 0, _ => by simp [lays]
  | m + 1, st => by
    rw [laysF_0]
    unfold laysF
    refine Nat.le_trans (flat_len (c := 36 ^ m) (fun q _ => lays_len)) ?_
    rw [Nat.pow_succ, Nat.mul_comm]
    exact Nat.mul_le_mul_left _ cand_len
/-! layings that pass a check at each thing -/
def pass (chk : List Nat → Nat → Bool) : List Nat → Bool
  | [] => true
  | q :: st => pass chk st && chk st q
theorem lays_pass {ok chk : List Nat → Nat → Bool} : ∀ {m : Nat} {st : List Nat}, (pass chk st = true → lays (fun st q => ok st q && chk st q) m st = (lays ok m st).filter (pass chk)) ∧ (pass chk st = false → (lays ok m st).filter (pass chk) = [])
  | 0, st => by
    constructor
    · intro h
      simp [lays, h]
    · intro h
      simp [lays, h]
  | m + 1, st => by
    have ih := fun q => lays_pass (ok := ok) (chk := chk) (m := m) (st := q :: st)
    constructor
    · intro h
      show (cand (fun st q => ok st q && chk st q) st 0).flatMap _ = ((cand ok st 0).flatMap _).filter _
      rw [List.filter_flatMap]
      have e : cand (fun st q => ok st q && chk st q) st 0 = (cand ok st 0).filter (chk st) := by
        unfold cand
        rw [List.filter_filter]
        congr 1
        funext q
        rw [Bool.and_comm]
      rw [e]
      generalize cand ok st 0 = l
      induction l with
      | nil => rfl
      | cons q l ihl =>
        rcases mb2 (chk st q) with c | c
        · rw [List.filter_cons_of_pos c, List.flatMap_cons, List.flatMap_cons, ihl, (ih q).1 (by show (pass chk st && chk st q) = true; rw [h, c]; rfl)]
        · rw [List.filter_cons_of_neg (by rw [c]; decide), List.flatMap_cons, ihl, (ih q).2 (by show (pass chk st && chk st q) = false; rw [c, Bool.and_false])]
          rfl
    · intro h
      show ((cand ok st 0).flatMap _).filter _ = _
      rw [List.filter_flatMap]
      generalize cand ok st 0 = l
      induction l with
      | nil => rfl
      | cons q l ihl =>
        rw [List.flatMap_cons, ihl, (ih q).2 (by show (pass chk st && chk st q) = false; rw [h]; rfl)]
        rfl
/-! in batches: all things but the last, and the squares of that one as bits -/
def bits (m : Int64) : List Nat := (List.range 36).filter (tb m)
def flat (b : List Nat × Int64) : List (List Nat) := (bits b.2).map (fun q => q :: b.1)
def msk (ok : List Nat → Nat → Bool) (st : List Nat) : Int64 := mkm (ok st) 36
theorem bits_msk {ok : List Nat → Nat → Bool} {st : List Nat} : bits (msk ok st) = cand ok st 0 := by
  unfold bits cand msk
  rw [List.drop_zero]
  apply List.filter_congr
  intro q hq
  rw [tb_mkm (by omega), decide_eq_true (by simpa using hq), Bool.true_and]
theorem bits_0 : bits 0 = [] := by
  unfold bits
  rw [List.filter_eq_nil_iff]
  intro q _
  rw [tb_zero]
  decide
def bts (ok : List Nat → Nat → Bool) : Nat → List Nat → List (List Nat × Int64)
  | 0, st => if msk ok st = 0 then [] else [(st, msk ok st)]
  | m + 1, st => (cand ok st 0).flatMap (fun q => bts ok m (q :: st))
def btsF (ok : List Nat → Nat → Bool) (m : Nat) (st : List Nat) (k : Nat) : List (List Nat × Int64) := (cand ok st k).flatMap (fun q => bts ok m (q :: st))
def Bm (ok : List Nat → Nat → Bool) (n : Nat) : List Nat → Nat → List (List Nat × Int64)
  | [], k => btsF ok (n - 2) [] k
  | q :: st, k => btsF ok (n - 2 - (st.length + 1)) (q :: st) k ++ Bm ok n st (q + 1)
theorem bts_flat {ok : List Nat → Nat → Bool} : ∀ {m : Nat} {st : List Nat}, (bts ok m st).flatMap flat = lays ok (m + 1) st
  | 0, st => by
    show (if msk ok st = 0 then _ else _ : List (List Nat × Int64)).flatMap flat = (cand ok st 0).flatMap (fun q => [q :: st])
    rw [← bits_msk]
    by_cases c : msk ok st = 0
    · rw [if_pos c, c, bits_0]; rfl
    · rw [if_neg c, List.flatMap_cons, List.flatMap_nil, List.append_nil]
      unfold flat
      rw [List.map_eq_flatMap]
  | m + 1, st => by
    show ((cand ok st 0).flatMap _).flatMap _ = (cand ok st 0).flatMap _
    rw [List.flatMap_assoc]
    congr 1
    funext q
    exact bts_flat
theorem bts_mem {ok : List Nat → Nat → Bool} : ∀ {m : Nat} {st : List Nat} {b : List Nat × Int64}, good ok st → b ∈ bts ok m st → good ok b.1 ∧ b.1.length = st.length + m ∧ b.2 = msk ok b.1 ∧ b.2 ≠ 0
  | 0, st, b, g, h => by
    unfold bts at h
    split at h
    · cases h
    · rename_i c
      have : b = (st, msk ok st) := by simpa using h
      subst this
      exact ⟨g, rfl, rfl, c⟩
  | m + 1, st, b, g, h => by
    unfold bts at h
    rw [List.mem_flatMap] at h
    obtain ⟨q, hq, hb⟩ := h
    obtain ⟨a1, a2⟩ := cand_mem hq
    obtain ⟨g1, g2, g3⟩ := bts_mem (st := q :: st) ⟨a1, a2, g⟩ hb
    refine ⟨g1, ?_, g3⟩
    rw [g2, List.length_cons]
    omega
theorem bts_len {ok : List Nat → Nat → Bool} : ∀ {m : Nat} {st : List Nat}, (bts ok m st).length ≤ 36 ^ m
  | 0, st => by
    unfold bts
    split <;> simp
  | m + 1, st => by
    unfold bts
    refine Nat.le_trans (flat_len (c := 36 ^ m) (fun q _ => bts_len)) ?_
    rw [Nat.pow_succ, Nat.mul_comm]
    exact Nat.mul_le_mul_left _ cand_len
theorem Bm_pop {ok : List Nat → Nat → Bool} {n a : Nat} {st : List Nat} {k : Nat} (h : ∀ j, k ≤ j → j < 36 → ok (a :: st) j = false) : Bm ok n (a :: st) k = Bm ok n st (a + 1) := by
  show btsF ok _ _ k ++ _ = _
  have : cand ok (a :: st) k = [] := by
    by_cases c : k < 36
    · rw [cand_skip (36 - k) k (fun j h1 h2 => h j h1 (by omega)), cand_end (by omega)]
    · exact cand_end (by omega)
  unfold btsF
  rw [this]
  rfl
theorem Bm_end {ok : List Nat → Nat → Bool} {n : Nat} {k : Nat} (h : ∀ j, k ≤ j → j < 36 → ok [] j = false) : Bm ok n [] k = [] := by
  show btsF ok _ _ k = _
  have : cand ok [] k = [] := by
    by_cases c : k < 36
    · rw [cand_skip (36 - k) k (fun j h1 h2 => h j h1 (by omega)), cand_end (by omega)]
    · exact cand_end (by omega)
  unfold btsF
  rw [this]
  rfl
theorem Bm_take {ok : List Nat → Nat → Bool} {n : Nat} {st : List Nat} {k q : Nat} (hk : k ≤ q) (h : q < 36) (e : ok st q = true) (hj : ∀ j, k ≤ j → j < q → ok st j = false) : Bm ok n st k = bts ok (n - 2 - st.length) (q :: st) ++ Bm ok n st (q + 1) := by
  have : cand ok st k = q :: cand ok st (q + 1) := by
    rw [cand_skip (q - k) k (fun j h1 h2 => hj j h1 (by omega)), show k + (q - k) = q by omega, cand_t h e]
  cases st with
  | nil =>
    show btsF ok _ _ k = _ ++ btsF ok _ _ (q + 1)
    unfold btsF
    rw [this]
    rfl
  | cons a st =>
    show btsF ok _ _ k ++ _ = _ ++ (btsF ok _ _ (q + 1) ++ _)
    unfold btsF
    rw [this, List.flatMap_cons, List.append_assoc]
    rfl
theorem Bm_push {ok : List Nat → Nat → Bool} {n : Nat} {st : List Nat} {k q : Nat} (hk : k ≤ q) (h : q < 36) (e : ok st q = true) (hj : ∀ j, k ≤ j → j < q → ok st j = false) (hl : st.length + 3 ≤ n) : Bm ok n st k = Bm ok n (q :: st) 0 := by
  rw [Bm_take hk h e hj]
  obtain ⟨m, hm⟩ : ∃ m, n - 2 - st.length = m + 1 := ⟨n - 3 - st.length, by omega⟩
  rw [hm]
  show btsF ok m (q :: st) 0 ++ _ = btsF ok (n - 2 - (st.length + 1)) (q :: st) 0 ++ Bm ok n st (q + 1)
  rw [show n - 2 - (st.length + 1) = m by omega]
theorem Bm_leaf {ok : List Nat → Nat → Bool} {n : Nat} {st : List Nat} {k q : Nat} (hk : k ≤ q) (h : q < 36) (e : ok st q = true) (hj : ∀ j, k ≤ j → j < q → ok st j = false) (hl : st.length + 2 = n) : Bm ok n st k = (if msk ok (q :: st) = 0 then [] else [(q :: st, msk ok (q :: st))]) ++ Bm ok n st (q + 1) := by
  rw [Bm_take hk h e hj, show n - 2 - st.length = 0 by omega]
  rfl
