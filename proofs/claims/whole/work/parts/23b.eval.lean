/-! LAWS: how a test is worked out -/
abbrev Lw : Type := Nat → Nat → Int32
def lw (h : qa_M) (k : Nat) : Lw := fun i j => match i with
  | 0 => h.1 142 k
  | 1 => h.1 143 (12 * k + j)
  | 2 => h.1 144 (12 * k + j)
  | 3 => h.1 145 (12 * k + j)
  | 4 => h.1 146 (12 * k + j)
  | 5 => h.1 147 (12 * k + j)
  | 6 => h.1 140 (300 * k + j)
  | _ => h.1 141 (300 * k + j)
def lC (L : Lw) : Nat := cN (L 0 0)
def lT (L : Lw) (c : Nat) : Nat := cN (L 4 c)
def lE (L : Lw) (c : Nat) : Nat := cN (L 5 c)
def isB (L : Lw) (c : Nat) : Bool := decide (L 2 c = -1)
def bth (x : Int32) (a b : Int64) : Int64 := if x = 2 then a + b else if x = 3 then a - b else if x = 4 then (if b ≤ a then 0 else 1) else if x = 5 then (if b < a then 0 else 1) else if x = 6 then (if a = b then 1 else 0) else if x = 7 then (if a < b then 0 else 1) else if x = 8 then (if a ≤ b then 0 else 1) else if x = 10 then a &&& b else if x = 13 then a * b else if x = 14 then (if b = 0 then 0 else a / b) else a ||| b
def binop (x : Int32) : Prop := x = 2 ∨ x = 3 ∨ x = 13 ∨ x = 14 ∨ x = 4 ∨ x = 5 ∨ x = 6 ∨ x = 7 ∨ x = 8 ∨ x = 10 ∨ x = 11

theorem binop_ne {x : Int32} (h : binop x) : x ≠ 0 ∧ x ≠ 1 ∧ x ≠ 9 := by
  rcases h with rfl | rfl | rfl | rfl | rfl | rfl | rfl | rfl | rfl | rfl | rfl <;> decide
theorem r_both {x : Int32} (hx : binop x) (a b : Int64) (h : qa_M) : m_X12_both x a b h = some (bth x a b, h) := by
  rcases hx with rfl | rfl | rfl | rfl | rfl | rfl | rfl | rfl | rfl | rfl | rfl
  · rfl
  · rfl
  · rfl
  · show (if b = 0 then _ else qnz (b = 0) _) = some ((if b = 0 then (0 : Int64) else a / b), h)
    by_cases c : b = 0
    · rw [if_pos c, if_pos c]
    · rw [if_neg c, if_neg c, qnz_f c]
  · show (if b ≤ a then some ((0 : Int64), h) else some ((1 : Int64), h)) = some ((if b ≤ a then (0 : Int64) else 1), h)
    split <;> rfl
  · show (if b < a then some ((0 : Int64), h) else some ((1 : Int64), h)) = some ((if b < a then (0 : Int64) else 1), h)
    split <;> rfl
  · show (if a = b then some ((1 : Int64), h) else some ((0 : Int64), h)) = some ((if a = b then (1 : Int64) else 0), h)
    split <;> rfl
  · show (if a < b then some ((0 : Int64), h) else some ((1 : Int64), h)) = some ((if a < b then (0 : Int64) else 1), h)
    split <;> rfl
  · show (if a ≤ b then some ((0 : Int64), h) else some ((1 : Int64), h)) = some ((if a ≤ b then (0 : Int64) else 1), h)
    split <;> rfl
  · rfl
  · rfl
/-- the class's code for an entry of the reference -/
def cr (c x v : Int32) : Prop := (x = 0 ∧ c = v ∧ ∃ n, n < 100000 ∧ v = nn n) ∨ (x = 1 ∧ ∃ j, j < 7 ∧ v = nn j ∧ c = -1 - nn j) ∨ (x = 9 ∧ c = -22) ∨ (x = 2 ∧ c = -11) ∨ (x = 3 ∧ c = -12) ∨ (x = 13 ∧ c = -13) ∨ (x = 14 ∧ c = -14) ∨ (x = 4 ∧ c = -15) ∨ (x = 5 ∧ c = -16) ∨ (x = 6 ∧ c = -17) ∨ (x = 7 ∧ c = -18) ∨ (x = 8 ∧ c = -19) ∨ (x = 10 ∧ c = -20) ∨ (x = 11 ∧ c = -21)
theorem k_cmp {h : qa_M} {p : Prop} [Decidable p] : (qbn (if p then some ((0 : Int32), h) else some ((1 : Int32), h)) (fun (c97 : Int32) (h97 : qa_M) => if c97 = 0 then some ((0 : Int64), h97) else some ((1 : Int64), h97))) = some ((if p then (0 : Int64) else 1), h) := by
  split <;> rfl
theorem k_cmp2 {h : qa_M} {p : Prop} [Decidable p] : (qbn (if p then some ((1 : Int32), h) else some ((0 : Int32), h)) (fun (c97 : Int32) (h97 : qa_M) => if c97 = 0 then some ((0 : Int64), h97) else some ((1 : Int64), h97))) = some ((if p then (1 : Int64) else 0), h) := by
  split <;> rfl
theorem k_join {c x v : Int32} (hc : cr c x v) (hx : binop x) (a b : Int64) (h : qa_M) : m_X5_join c a b h = some (bth x a b, h) ∧ c < -7 ∧ c ≠ -22 := by
  rcases hc with ⟨rfl, _⟩ | ⟨rfl, _⟩ | ⟨rfl, _⟩ | ⟨rfl, rfl⟩ | ⟨rfl, rfl⟩ | ⟨rfl, rfl⟩ | ⟨rfl, rfl⟩ | ⟨rfl, rfl⟩ | ⟨rfl, rfl⟩ | ⟨rfl, rfl⟩ | ⟨rfl, rfl⟩ | ⟨rfl, rfl⟩ | ⟨rfl, rfl⟩ | ⟨rfl, rfl⟩
  · exact absurd hx (by unfold binop; decide)
  · exact absurd hx (by unfold binop; decide)
  · exact absurd hx (by unfold binop; decide)
  · exact ⟨rfl, by decide, by decide⟩
  · exact ⟨rfl, by decide, by decide⟩
  · exact ⟨rfl, by decide, by decide⟩
  · refine ⟨?_, by decide, by decide⟩
    show (if b = 0 then _ else qnz (b = 0) _) = some ((if b = 0 then (0 : Int64) else a / b), h)
    by_cases c : b = 0
    · rw [if_pos c, if_pos c]
    · rw [if_neg c, if_neg c, qnz_f c]
  · exact ⟨k_cmp (p := b ≤ a), by decide, by decide⟩
  · exact ⟨k_cmp (p := b < a), by decide, by decide⟩
  · exact ⟨k_cmp2 (p := a = b), by decide, by decide⟩
  · exact ⟨k_cmp (p := a < b), by decide, by decide⟩
  · exact ⟨k_cmp (p := a ≤ b), by decide, by decide⟩
  · exact ⟨rfl, by decide, by decide⟩
  · exact ⟨rfl, by decide, by decide⟩
/-! sorts of what is on the stack: true, a truth (0 or 1) -/
def tst (x : Int32) (T : List Bool) : Option (List Bool) :=
  if x = 0 ∨ x = 1 then some (false :: T)
  else if x = 9 then (match T with
    | true :: t => some (true :: t)
    | _ => none)
  else if x = 10 ∨ x = 11 then (match T with
    | true :: true :: t => some (true :: t)
    | _ => none)
  else if x = 2 ∨ x = 3 ∨ x = 13 ∨ x = 14 then (match T with
    | false :: false :: t => some (false :: t)
    | _ => none)
  else if x = 4 ∨ x = 5 ∨ x = 6 ∨ x = 7 ∨ x = 8 then (match T with
    | false :: false :: t => some (true :: t)
    | _ => none)
  else none
def tyr (L : Lw) (e : Nat) (T : List Bool) : Nat → Option (List Bool)
  | 0 => some T
  | k + 1 => (tyr L e T k).bind (tst (L 6 (e + k)))
theorem tyr_add (L : Lw) (e : Nat) (T : List Bool) (n : Nat) : ∀ m, tyr L e T (n + m) = (tyr L e T n).bind (fun T2 => tyr L (e + n) T2 m)
  | 0 => by
    show tyr L e T n = _
    cases tyr L e T n <;> rfl
  | m + 1 => by
    show (tyr L e T (n + m)).bind _ = _
    rw [tyr_add L e T n m]
    cases tyr L e T n with
    | none => rfl
    | some T2 =>
      show (tyr L (e + n) T2 m).bind _ = (tyr L (e + n) T2 m).bind _
      rw [show e + n.add m = e + n + m from (Nat.add_assoc e n m).symm]
theorem tyr_le {L : Lw} {e : Nat} {T U : List Bool} {n : Nat} (h : tyr L e T n = some U) {k : Nat} (hk : k ≤ n) : ∃ V, tyr L e T k = some V := by
  obtain ⟨m, rfl⟩ : ∃ m, n = k + m := ⟨n - k, by omega⟩
  rw [tyr_add] at h
  cases q : tyr L e T k with
  | none => rw [q] at h; cases h
  | some V => exact ⟨V, rfl⟩
def stp (f : Nat → Int64) (x v : Int32) (st : List Int64) : List Int64 :=
  if x = 0 then v.toInt64 :: st
  else if x = 1 then f (cN v) :: st
  else if x = 9 then (match st with
    | a :: t => (1 - a) :: t
    | [] => [])
  else (match st with
    | b :: a :: t => bth x a b :: t
    | y => y)
def rn (L : Lw) (f : Nat → Int64) (e : Nat) : Nat → List Int64
  | 0 => []
  | k + 1 => stp f (L 6 (e + k)) (L 7 (e + k)) (rn L f e k)
def vl (L : Lw) (f : Nat → Int64) (c : Nat) : Bool := decide (rn L f (lT L c) (lE L c - lT L c) = [1])
def tyd : List Bool → List Int64 → Prop
  | [], [] => True
  | b :: T, x :: st => (b = true → x = 0 ∨ x = 1) ∧ tyd T st
  | _, _ => False
theorem tyd_len : ∀ {T : List Bool} {st : List Int64}, tyd T st → st.length = T.length
  | [], [], _ => rfl
  | [], _ :: _, h => h.elim
  | _ :: _, [], h => h.elim
  | _ :: T, _ :: st, h => by simp [tyd_len h.2]
theorem bth_tr {x : Int32} (hx : x = 4 ∨ x = 5 ∨ x = 6 ∨ x = 7 ∨ x = 8) (a b : Int64) : bth x a b = 0 ∨ bth x a b = 1 := by
  rcases hx with rfl | rfl | rfl | rfl | rfl
  · show (if b ≤ a then (0 : Int64) else 1) = 0 ∨ (if b ≤ a then (0 : Int64) else 1) = 1
    split <;> simp
  · show (if b < a then (0 : Int64) else 1) = 0 ∨ (if b < a then (0 : Int64) else 1) = 1
    split <;> simp
  · show (if a = b then (1 : Int64) else 0) = 0 ∨ (if a = b then (1 : Int64) else 0) = 1
    split <;> simp
  · show (if a < b then (0 : Int64) else 1) = 0 ∨ (if a < b then (0 : Int64) else 1) = 1
    split <;> simp
  · show (if a ≤ b then (0 : Int64) else 1) = 0 ∨ (if a ≤ b then (0 : Int64) else 1) = 1
    split <;> simp
theorem bth_lo {x : Int32} (hx : x = 10 ∨ x = 11) {a b : Int64} (ha : a = 0 ∨ a = 1) (hb : b = 0 ∨ b = 1) : bth x a b = 0 ∨ bth x a b = 1 := by
  rcases hx with rfl | rfl <;> rcases ha with rfl | rfl <;> rcases hb with rfl | rfl <;> decide
/-- a step, by its sort -/
theorem stp_el {f : Nat → Int64} {x v : Int32} {T U : List Bool} {st : List Int64} (h : tst x T = some U) (d : tyd T st) :
    tyd U (stp f x v st) ∧ ((x = 0 ∧ stp f x v st = v.toInt64 :: st) ∨ (x = 1 ∧ stp f x v st = f (cN v) :: st) ∨ (x = 9 ∧ ∃ a t, st = a :: t ∧ stp f x v st = (1 - a) :: t) ∨ (binop x ∧ ∃ a b t, st = b :: a :: t ∧ stp f x v st = bth x a b :: t)) := by
  unfold tst at h
  split at h
  · rename_i c
    cases h
    rcases c with rfl | rfl
    · exact ⟨⟨(fun q => nomatch q), d⟩, .inl ⟨rfl, rfl⟩⟩
    · exact ⟨⟨(fun q => nomatch q), d⟩, .inr (.inl ⟨rfl, rfl⟩)⟩
  · rename_i c0
    split at h
    · rename_i c
      subst c
      split at h
      · rename_i t
        cases h
        cases st with
        | nil => exact d.elim
        | cons a t2 =>
          refine ⟨⟨fun _ => ?_, d.2⟩, .inr (.inr (.inl ⟨rfl, a, t2, rfl, rfl⟩))⟩
          rcases d.1 rfl with rfl | rfl <;> decide
      · cases h
    · rename_i c9
      have hs : ∀ (a b : Int64) (t : List Int64), stp f x v (b :: a :: t) = bth x a b :: t := by
        intro a b t
        unfold stp
        rw [if_neg (fun q => c0 (.inl q)), if_neg (fun q => c0 (.inr q)), if_neg c9]
      split at h
      · rename_i c
        split at h
        · rename_i t
          cases h
          match st, d with
          | b :: a :: t2, d =>
            rw [hs]
            exact ⟨⟨fun _ => bth_lo c (d.2.1 rfl) (d.1 rfl), d.2.2⟩, .inr (.inr (.inr ⟨by unfold binop; rcases c with rfl | rfl <;> decide, a, b, t2, rfl, rfl⟩))⟩
          | [b], d => exact d.2.elim
          | [], d => exact d.elim
        · cases h
      · split at h
        · rename_i c
          split at h
          · rename_i t
            cases h
            match st, d with
            | b :: a :: t2, d =>
              rw [hs]
              exact ⟨⟨(fun q => nomatch q), d.2.2⟩, .inr (.inr (.inr ⟨by unfold binop; rcases c with rfl | rfl | rfl | rfl <;> decide, a, b, t2, rfl, rfl⟩))⟩
            | [b], d => exact d.2.elim
            | [], d => exact d.elim
          · cases h
        · split at h
          · rename_i c
            split at h
            · rename_i t
              cases h
              match st, d with
              | b :: a :: t2, d =>
                rw [hs]
                exact ⟨⟨fun _ => bth_tr c a b, d.2.2⟩, .inr (.inr (.inr ⟨by unfold binop; rcases c with rfl | rfl | rfl | rfl | rfl <;> decide, a, b, t2, rfl, rfl⟩))⟩
              | [b], d => exact d.2.elim
              | [], d => exact d.elim
            · cases h
          · cases h
theorem rn_tyd {L : Lw} {f : Nat → Int64} {e : Nat} : ∀ {k : Nat} {U : List Bool}, tyr L e [] k = some U → tyd U (rn L f e k)
  | 0, U, h => by cases h; trivial
  | k + 1, U, h => by
    obtain ⟨V, hV⟩ := tyr_le h (Nat.le_succ k)
    have h2 : tst (L 6 (e + k)) V = some U := by
      have : (tyr L e [] k).bind (tst (L 6 (e + k))) = some U := h
      rw [hV] at this
      exact this
    exact (stp_el (f := f) (v := L 7 (e + k)) h2 (rn_tyd hV)).1
/-! a row that holds a stack -/
def arO (r : Nat → Int64) : List Int64 → Prop
  | [] => True
  | x :: t => r t.length = x ∧ arO r t
theorem arO_up {r r2 : Nat → Int64} : ∀ {t : List Int64}, arO r t → (∀ j, j < t.length → r2 j = r j) → arO r2 t
  | [], _, _ => trivial
  | x :: t, h, e => ⟨by rw [e _ (by simp)]; exact h.1, arO_up h.2 (fun j hj => e j (by simp; omega))⟩
def nv (L : Lw) (e k : Nat) : Nat := cnt (fun j => decide (L 6 (e + j) = 0 ∨ L 6 (e + j) = 1)) k
theorem tyr_len {L : Lw} {e : Nat} : ∀ {k : Nat} {U : List Bool}, tyr L e [] k = some U → U.length ≤ nv L e k ∧ U.length ≤ k
  | 0, U, h => by cases h; simp
  | k + 1, U, h => by
    obtain ⟨V, hV⟩ := tyr_le h (Nat.le_succ k)
    have h2 : tst (L 6 (e + k)) V = some U := by
      have : (tyr L e [] k).bind (tst (L 6 (e + k))) = some U := h
      rw [hV] at this
      exact this
    have ih := tyr_len hV
    unfold tst at h2
    have hn : nv L e (k + 1) = nv L e k + (if decide (L 6 (e + k) = 0 ∨ L 6 (e + k) = 1) = true then 1 else 0) := rfl
    split at h2
    · rename_i c
      cases h2
      rw [hn, decide_eq_true c]
      simp
      omega
    · rw [hn]
      split at h2
      · split at h2
        · cases h2; simp at ih ⊢; omega
        · cases h2
      · split at h2
        · split at h2
          · cases h2; simp at ih ⊢; omega
          · cases h2
        · split at h2
          · split at h2
            · cases h2; simp at ih ⊢; omega
            · cases h2
          · split at h2
            · split at h2
              · cases h2; simp at ih ⊢; omega
              · cases h2
            · cases h2
theorem nv_mono {L : Lw} {e k n : Nat} (h : k ≤ n) : nv L e k ≤ nv L e n := by
  obtain ⟨m, rfl⟩ : ∃ m, n = k + m := ⟨n - k, by omega⟩
  induction m with
  | zero => exact Nat.le_refl _
  | succ m ih =>
    refine Nat.le_trans (ih (by omega)) ?_
    show cnt _ (k + m) ≤ cnt _ (k + m) + _
    omega
theorem nn_sb1 {a : Nat} : nn (a + 1) + (-1) = nn a := by
  rw [← Int32.sub_eq_add_neg, nn_sub1 (by omega)]
  rfl
/-- the reference's answer -/
theorem r_answer {h : qa_M} {k e n : Nat} {f : Nat → Int64} (hk : k < 4) (hn : e + n ≤ 300) (hf : ∀ j, j < 7 → h.2.1 149 j = f j) (hv : ∀ i, i < n → lw h k 6 (e + i) = 1 → ∃ j, j < 7 ∧ lw h k 7 (e + i) = nn j) (ht : tyr (lw h k) e [] n = some [true]) :
    qW (m_X12_answer (nn k) (nn e) (nn (e + n)) h) (fun z => rn (lw h k) f e n = [z.1] ∧ (z.1 = 0 ∨ z.1 = 1)) := by
  unfold m_X12_answer f_X12_answer_b6_loop
  simp only [qbd_e]
  obtain ⟨L, hL⟩ : ∃ L, L = lw h k := ⟨_, rfl⟩
  rw [← hL] at ht hv ⊢
  refine qW_for n (fun i s => ∃ g, s = (nn k, nn (e + n), nn (rn L f e i).length, nn (e + i), g) ∧ qfr [(150, 0)] h g ∧ arO (g.2.1 150) (rn L f e i)) ?_ ?_ (Nat.zero_le n) ⟨h, rfl, qfr_rf, trivial⟩
  · rintro i s hi ⟨g, rfl, hg, ha⟩
    obtain ⟨U, hU⟩ := tyr_le ht (show i + 1 ≤ n from hi)
    obtain ⟨V, hV⟩ := tyr_le hU (Nat.le_succ i)
    have h2 : tst (L 6 (e + i)) V = some U := by
      have : (tyr L e [] i).bind (tst (L 6 (e + i))) = some U := hU
      rw [hV] at this
      exact this
    have hd := rn_tyd (f := f) hV
    have hl := (tyr_len hV).2
    rw [← tyd_len hd] at hl
    have c6 : g.1 140 (300 * k + (e + i)) = L 6 (e + i) := by rw [(hg.1 140 _ rfl).1, hL]; rfl
    have c7 : g.1 141 (300 * k + (e + i)) = L 7 (e + i) := by rw [(hg.1 141 _ rfl).1, hL]; rfl
    have hr : rn L f e (i + 1) = stp f (L 6 (e + i)) (L 7 (e + i)) (rn L f e i) := rfl
    show qW (f_X12_answer_b6 (nn k) (nn (e + n)) (nn (rn L f e i).length) (nn (e + i)) g) _
    unfold f_X12_answer_b6
    rw [if_neg (fun q => by rw [nn_le (by omega) (by omega)] at q; omega), show (300 : Int32) = nn 300 from rfl, nn_mul, nn_add]
    simp (disch := first | omega | decide) only [qbn_x, qbv_x, qup_x, qbd_x, qck_nn, qck_ok, nn_cl, nn_add1, lx0, lx1, lx2, lx3, lx4, lx5, lx6, lx7, lx8, lx9, lx10, bi_e0, bi_e1]
    rw [c6, c7]
    have fin : ∀ (g2 : qa_M), qfr [(150, 0)] h g2 → arO (g2.2.1 150) (rn L f e (i + 1)) → qW (f_X12_answer_b147 (nn k) (nn (e + n)) (nn (rn L f e (i + 1)).length) (nn (e + i)) g2) (Sum.elim (fun s => ∃ g, s = (nn k, nn (e + n), nn (rn L f e (i + 1)).length, nn (e + (i + 1)), g) ∧ qfr [(150, 0)] h g ∧ arO (g.2.1 150) (rn L f e (i + 1))) (fun z => rn L f e n = [z.1] ∧ (z.1 = 0 ∨ z.1 = 1))) := by
      intro g2 q1 q2
      unfold f_X12_answer_b147
      rw [qbd_e, nn_add1, qW_some]
      exact ⟨g2, rfl, q1, q2⟩
    have push : ∀ (x : Int64), rn L f e (i + 1) = x :: rn L f e i → qW (f_X12_answer_b77 (nn k) (nn (e + n)) (nn (rn L f e i).length) (nn (e + i)) (nn (rn L f e i).length) x g) (Sum.elim (fun s => ∃ g, s = (nn k, nn (e + n), nn (rn L f e (i + 1)).length, nn (e + (i + 1)), g) ∧ qfr [(150, 0)] h g ∧ arO (g.2.1 150) (rn L f e (i + 1))) (fun z => rn L f e n = [z.1] ∧ (z.1 = 0 ∨ z.1 = 1))) := by
      intro x hx
      unfold f_X12_answer_b77
      simp (disch := first | omega | decide) only [qbn_x, qbv_x, qup_x, qbd_x, qck_nn, qck_ok, nn_cl, nn_add1, lx0, lx1, lx2, lx3, lx4, lx5, lx6, lx7, lx8, lx9, lx10, bi_e0, bi_e1]
      rw [show (rn L f e i).length + 1 = (rn L f e (i + 1)).length by rw [hx]; rfl]
      refine fin _ (qfr_J0 rfl (by simp) hg) ?_
      rw [hx]
      exact ⟨wJ_at, arO_up ha (fun j hj => wJ_ne (by omega))⟩
    rcases (stp_el (f := f) (v := L 7 (e + i)) h2 hd).2 with ⟨x0, q⟩ | ⟨x1, q⟩ | ⟨x9, a, t, q1, q2⟩ | ⟨xb, a, b, t, q1, q2⟩
    · rw [if_pos x0]
      unfold f_X12_answer_b53
      rw [if_pos x0]
      exact push _ (by rw [hr, q])
    · obtain ⟨j, hj, hvj⟩ := hv i hi x1
      rw [if_neg (by rw [x1]; decide), if_pos x1]
      unfold f_X12_answer_b53
      rw [if_neg (by rw [x1]; decide), hvj, qck_nn hj (by omega), nn_cl (by omega), (hg.1 149 j rfl).2.1, hf j hj]
      refine push _ ?_
      rw [hr, q, hvj, cN_nn (by omega)]
    · rw [if_neg (by rw [x9]; decide), if_neg (by rw [x9]; decide), if_pos x9]
      rw [q1] at ha hl ⊢
      simp only [List.length_cons] at hl ⊢
      rw [nn_sub1 (by omega), Nat.add_sub_cancel]
      simp (disch := first | omega | decide) only [qbn_x, qbv_x, qup_x, qbd_x, qck_nn, qck_ok, nn_cl, nn_add1, lx0, lx1, lx2, lx3, lx4, lx5, lx6, lx7, lx8, lx9, lx10, bi_e0, bi_e1]
      rw [ha.1]
      have hlt : (rn L f e (i + 1)).length = t.length + 1 := by rw [hr, q2]; rfl
      rw [← hlt]
      exact fin (qw_J g 150 t.length (1 - a)) (qfr_J0 rfl (by simp) hg) (by rw [hr, q2]; exact ⟨wJ_at, arO_up ha.2 (fun j hj => wJ_ne (by omega))⟩)
    · obtain ⟨b0, b1, b9⟩ := binop_ne xb
      rw [if_neg b0, if_neg b1, if_neg b9]
      rw [q1] at ha hl ⊢
      simp only [List.length_cons] at hl ⊢
      rw [nn_sb1, nn_sub1 (by omega), Nat.add_sub_cancel]
      simp (disch := first | omega | decide) only [qbn_x, qbv_x, qup_x, qbd_x, qck_nn, qck_ok, nn_cl, nn_add1, lx0, lx1, lx2, lx3, lx4, lx5, lx6, lx7, lx8, lx9, lx10, bi_e0, bi_e1]
      have a1 : g.2.1 150 (t.length + 1) = b := ha.1
      have a2 : g.2.1 150 t.length = a := ha.2.1
      rw [a1, a2, r_both xb, qbn_s]
      have hlt : (rn L f e (i + 1)).length = t.length + 1 := by rw [hr, q2]; rfl
      rw [← hlt]
      exact fin (qw_J g 150 t.length (bth (L 6 (e + i)) a b)) (qfr_J0 rfl (by simp) hg) (by rw [hr, q2]; exact ⟨wJ_at, arO_up ha.2.2 (fun j hj => wJ_ne (by omega))⟩)
  · rintro s ⟨g, rfl, hg, ha⟩
    show qW (f_X12_answer_b6 (nn k) (nn (e + n)) (nn (rn L f e n).length) (nn (e + n)) g) _
    unfold f_X12_answer_b6
    rw [if_pos ((nn_le (by omega) (by omega)).mpr (by omega))]
    unfold f_X12_answer_b153
    simp (disch := first | omega | decide) only [qbn_x, qbv_x, qup_x, qbd_x, qck_nn, qck_ok, nn_cl, nn_add1, lx0, lx1, lx2, lx3, lx4, lx5, lx6, lx7, lx8, lx9, lx10, bi_e0, bi_e1]
    rw [qW_some]
    have hd := rn_tyd (f := f) ht
    show rn L f e n = [g.2.1 150 0] ∧ _
    match hrn : rn L f e n, hd with
    | [x], hd =>
      rw [hrn] at ha
      rw [show g.2.1 150 0 = x from ha.1]
      exact ⟨rfl, hd.1 rfl⟩
    | [], hd => exact hd.elim
    | _ :: _ :: _, hd => exact hd.2.elim
/-- the class's answer -/
theorem k_isTrue {h : qa_M} {L : Lw} {a e n : Nat} {f : Nat → Int64} (hA : qLaw a) (hn : e + n ≤ 300) (hf : ∀ j, j < 7 → (h.1 (a + 8) j).toInt64 = f j) (hc : ∀ i, i < n → cr (h.1 (a + 6) (e + i)) (L 6 (e + i)) (L 7 (e + i))) (ht : tyr L e [] n = some [true]) (h60 : nv L e n ≤ 60) :
    qW (m_X5_isTrue a (nn e) (nn (e + n)) h) (fun z => z.1 = bi (decide (rn L f e n = [1]))) := by
  unfold m_X5_isTrue f_X5_isTrue_b5_loop
  simp only [qbd_e]
  refine qW_for n (fun i s => ∃ g, s = (nn (e + n), nn (rn L f e i).length, nn (e + i), g) ∧ qfr [(a + 7, 0)] h g ∧ arO (g.2.1 (a + 7)) (rn L f e i)) ?_ ?_ (Nat.zero_le n) ⟨h, rfl, qfr_rf, trivial⟩
  · rintro i s hi ⟨g, rfl, hg, ha⟩
    obtain ⟨U, hU⟩ := tyr_le ht (show i + 1 ≤ n from hi)
    obtain ⟨V, hV⟩ := tyr_le hU (Nat.le_succ i)
    have h2 : tst (L 6 (e + i)) V = some U := by
      have : (tyr L e [] i).bind (tst (L 6 (e + i))) = some U := hU
      rw [hV] at this
      exact this
    have hd := rn_tyd (f := f) hV
    have hl := (tyr_len hV).1
    have hl2 := (tyr_len hU).1
    have hm := nv_mono (L := L) (e := e) (show i + 1 ≤ n from hi)
    have hm2 := nv_mono (L := L) (e := e) (show i ≤ n by omega)
    rw [← tyd_len hd] at hl
    rw [← tyd_len (rn_tyd (f := f) hU)] at hl2
    have c6 : g.1 (a + 6) (e + i) = h.1 (a + 6) (e + i) := (hg.1 (a + 6) _ (by unfold inW; simp)).1
    have hr : rn L f e (i + 1) = stp f (L 6 (e + i)) (L 7 (e + i)) (rn L f e i) := rfl
    have hci := hc i hi
    show qW (f_X5_isTrue_b5 a (nn (e + n)) (nn (rn L f e i).length) (nn (e + i)) g) _
    unfold f_X5_isTrue_b5
    rw [if_neg (fun q => by rw [nn_le (by omega) (by omega)] at q; omega)]
    simp (disch := first | omega | decide) only [qbn_x, qbv_x, qup_x, qbd_x, qck_nn, qck_ok, nn_cl, nn_add1, lx0, lx1, lx2, lx3, lx4, lx5, lx6, lx7, lx8, lx9, lx10, bi_e0, bi_e1]
    rw [c6]
    have fin : ∀ (g2 : qa_M), qfr [(a + 7, 0)] h g2 → arO (g2.2.1 (a + 7)) (rn L f e (i + 1)) → qW (f_X5_isTrue_b136 a (nn (e + n)) (nn (rn L f e (i + 1)).length) (nn (e + i)) g2) (Sum.elim (fun s => ∃ g, s = (nn (e + n), nn (rn L f e (i + 1)).length, nn (e + (i + 1)), g) ∧ qfr [(a + 7, 0)] h g ∧ arO (g.2.1 (a + 7)) (rn L f e (i + 1))) (fun z => z.1 = bi (decide (rn L f e n = [1])))) := by
      intro g2 q1 q2
      unfold f_X5_isTrue_b136
      rw [qbd_e, nn_add1, qW_some]
      exact ⟨g2, rfl, q1, q2⟩
    have push : ∀ (x : Int64), rn L f e (i + 1) = x :: rn L f e i → qW (f_X5_isTrue_b62 a (nn (e + n)) (nn (rn L f e i).length) (nn (e + i)) (a + 7) (nn (rn L f e i).length) x g) (Sum.elim (fun s => ∃ g, s = (nn (e + n), nn (rn L f e (i + 1)).length, nn (e + (i + 1)), g) ∧ qfr [(a + 7, 0)] h g ∧ arO (g.2.1 (a + 7)) (rn L f e (i + 1))) (fun z => z.1 = bi (decide (rn L f e n = [1])))) := by
      intro x hx
      have hlx : (rn L f e (i + 1)).length = (rn L f e i).length + 1 := by rw [hx]; rfl
      unfold f_X5_isTrue_b62
      rw [qal_s (wl_Law_7 hA g)]
      simp (disch := first | omega | decide) only [qbn_x, qbv_x, qup_x, qbd_x, qck_nn, qck_ok, nn_cl, nn_add1, lx0, lx1, lx2, lx3, lx4, lx5, lx6, lx7, lx8, lx9, lx10, bi_e0, bi_e1]
      rw [← hlx]
      refine fin _ (qfr_J0 rfl (by simp) hg) ?_
      rw [hx]
      exact ⟨wJ_at, arO_up ha (fun j hj => wJ_ne (by omega))⟩
    rcases (stp_el (f := f) (v := L 7 (e + i)) h2 hd).2 with ⟨x0, q⟩ | ⟨x1, q⟩ | ⟨x9, y, t, q1, q2⟩ | ⟨xb, y, b, t, q1, q2⟩
    · have hlx : (rn L f e (i + 1)).length = (rn L f e i).length + 1 := by rw [hr, q]; rfl
      rcases hci with ⟨-, c2, m, hm3, c3⟩ | ⟨c1, _⟩ | ⟨c1, _⟩ | ⟨c1, _⟩ | ⟨c1, _⟩ | ⟨c1, _⟩ | ⟨c1, _⟩ | ⟨c1, _⟩ | ⟨c1, _⟩ | ⟨c1, _⟩ | ⟨c1, _⟩ | ⟨c1, _⟩ | ⟨c1, _⟩ | ⟨c1, _⟩
      · rw [c2, c3]
        rw [if_neg (by rw [Int32.lt_iff_toInt_lt, nn_toInt (by omega), show (-7 : Int32).toInt = -7 from rfl]; omega), if_neg (by rw [show (61 : Int32) = nn 61 from rfl, nn_le (by omega) (by omega)]; omega), if_neg (nn_nneg (by omega))]
        exact push _ (by rw [hr, q, c3])
      all_goals exact absurd (x0.symm.trans c1) (by decide)
    · have hlx : (rn L f e (i + 1)).length = (rn L f e i).length + 1 := by rw [hr, q]; rfl
      rcases hci with ⟨c1, _⟩ | ⟨-, j, hj, c2, c3⟩ | ⟨c1, _⟩ | ⟨c1, _⟩ | ⟨c1, _⟩ | ⟨c1, _⟩ | ⟨c1, _⟩ | ⟨c1, _⟩ | ⟨c1, _⟩ | ⟨c1, _⟩ | ⟨c1, _⟩ | ⟨c1, _⟩ | ⟨c1, _⟩ | ⟨c1, _⟩
      · exact absurd (x1.symm.trans c1) (by decide)
      · have hw : ∀ j, j < 7 → ¬ ((-1 : Int32) - nn j < -7) ∧ ((-1 : Int32) - nn j < 0) ∧ (-1 : Int32) - ((-1 : Int32) - nn j) = nn j := by decide +kernel
        obtain ⟨w1, w2, w3⟩ := hw j hj
        rw [c3, if_neg w1, if_neg (by rw [show (61 : Int32) = nn 61 from rfl, nn_le (by omega) (by omega)]; omega), if_pos w2, w3, qck_nn hj (by omega), nn_cl (by omega), (hg.1 (a + 8) j (by unfold inW; simp)).1, hf j hj]
        refine push _ ?_
        rw [hr, q, c2, cN_nn (by omega)]
      all_goals exact absurd (x1.symm.trans c1) (by decide)
    · have c22 : h.1 (a + 6) (e + i) = -22 := by
        rcases hci with ⟨c1, _⟩ | ⟨c1, _⟩ | ⟨-, c2⟩ | ⟨c1, _⟩ | ⟨c1, _⟩ | ⟨c1, _⟩ | ⟨c1, _⟩ | ⟨c1, _⟩ | ⟨c1, _⟩ | ⟨c1, _⟩ | ⟨c1, _⟩ | ⟨c1, _⟩ | ⟨c1, _⟩ | ⟨c1, _⟩
        · exact absurd (x9.symm.trans c1) (by decide)
        · exact absurd (x9.symm.trans c1) (by decide)
        · exact c2
        all_goals exact absurd (x9.symm.trans c1) (by decide)
      rw [c22, if_pos (by decide), if_pos rfl]
      rw [q1] at ha hl ⊢
      simp only [List.length_cons] at hl ⊢
      rw [if_neg (by rw [show (0 : Int32) = nn 0 from rfl, nn_le (by omega) (by omega)]; omega), nn_sub1 (by omega), Nat.add_sub_cancel]
      simp (disch := first | omega | decide) only [qbn_x, qbv_x, qup_x, qbd_x, qck_nn, qck_ok, nn_cl, nn_add1, lx0, lx1, lx2, lx3, lx4, lx5, lx6, lx7, lx8, lx9, lx10, bi_e0, bi_e1]
      rw [ha.1]
      have hlt : (rn L f e (i + 1)).length = t.length + 1 := by rw [hr, q2]; rfl
      rw [← hlt]
      exact fin (qw_J g (a + 7) t.length (1 - y)) (qfr_J0 rfl (by simp) hg) (by rw [hr, q2]; exact ⟨wJ_at, arO_up ha.2 (fun j hj => wJ_ne (by omega))⟩)
    · obtain ⟨kj, k1, k2⟩ := k_join hci xb y b g
      rw [if_pos k1, if_neg k2]
      rw [q1] at ha hl ⊢
      simp only [List.length_cons] at hl ⊢
      rw [if_neg (by rw [show (1 : Int32) = nn 1 from rfl, nn_le (by omega) (by omega)]; omega), nn_sb1, nn_sub1 (by omega), Nat.add_sub_cancel]
      simp (disch := first | omega | decide) only [qbn_x, qbv_x, qup_x, qbd_x, qck_nn, qck_ok, nn_cl, nn_add1, lx0, lx1, lx2, lx3, lx4, lx5, lx6, lx7, lx8, lx9, lx10, bi_e0, bi_e1]
      have a1 : g.2.1 (a + 7) (t.length + 1) = b := ha.1
      have a2 : g.2.1 (a + 7) t.length = y := ha.2.1
      rw [a1, a2, kj, qbn_s]
      have hlt : (rn L f e (i + 1)).length = t.length + 1 := by rw [hr, q2]; rfl
      rw [← hlt]
      exact fin (qw_J g (a + 7) t.length (bth (L 6 (e + i)) y b)) (qfr_J0 rfl (by simp) hg) (by rw [hr, q2]; exact ⟨wJ_at, arO_up ha.2.2 (fun j hj => wJ_ne (by omega))⟩)
  · rintro s ⟨g, rfl, hg, ha⟩
    show qW (f_X5_isTrue_b5 a (nn (e + n)) (nn (rn L f e n).length) (nn (e + n)) g) _
    unfold f_X5_isTrue_b5
    rw [if_pos ((nn_le (by omega) (by omega)).mpr (by omega))]
    unfold f_X5_isTrue_b142
    have hd := rn_tyd (f := f) ht
    match hrn : rn L f e n, hd with
    | [x], hd =>
      rw [hrn] at ha
      have a1 : g.2.1 (a + 7) 0 = x := ha.1
      show qW (qup (if nn 1 ≤ 0 then _ else _)) _
      rw [if_neg (show ¬ (nn 1 ≤ 0) by decide)]
      simp (disch := first | omega | decide) only [qbn_x, qbv_x, qup_x, qbd_x, qck_nn, qck_ok, nn_cl, nn_add1, lx0, lx1, lx2, lx3, lx4, lx5, lx6, lx7, lx8, lx9, lx10, bi_e0, bi_e1]
      rw [a1]
      rcases hd.1 rfl with rfl | rfl
      · rw [if_pos rfl, qup_s, qW_some]; rfl
      · rw [if_neg (by decide), qup_s, qW_some]; rfl
    | [], hd => exact hd.elim
    | _ :: _ :: _, hd => exact hd.2.elim
