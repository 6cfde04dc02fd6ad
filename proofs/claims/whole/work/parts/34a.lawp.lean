/-! A LAW IS READ: the tests, as functions -/
abbrev Cd : Type := List (Nat × Nat)
abbrev PS : Type := Nat ⊕ (Nat × Cd × Nat)
def pVal (B : Nat → Nat) (n p : Nat) (E : Cd) (c : Nat) : PS :=
  if isD B n (sk B n p) = true then
    if nd B n (sk B n p) - sk B n p ≤ 5 then (if c = 60 then .inl (ER (sk B n p) 3) else .inr (nd B n (sk B n p), E ++ [(0, dv B (sk B n p) (nd B n (sk B n p) - sk B n p))], c + 1))
    else .inl (ER (sk B n p) 1)
  else match amN B n (sk B n p) [12, 13, 14, 15, 7, 8, 16] 0 with
    | none => .inl (ER (sk B n p) 0)
    | some k => if c = 60 then .inl (ER (sk B n p) 3) else .inr (wd B n (sk B n p), E ++ [(1, k)], c + 1)
def wl : Option Nat → Cd
  | none => []
  | some k => [(k, 0)]
def pSm (B : Nat → Nat) (n : Nat) : Nat → Option Nat → Nat → Cd → Nat → PS
  | 0, _, _, _, _ => .inl 1
  | f + 1, w, p, E, c =>
    if sgI B n (sk B n p) 42 then pBd (pVal B n (sk B n p + 1) E c) (fun r => pSm B n f w r.1 (r.2.1 ++ [(13, 0)]) r.2.2)
    else if sgI B n (sk B n p) 47 then pBd (pVal B n (sk B n p + 1) E c) (fun r => pSm B n f w r.1 (r.2.1 ++ [(14, 0)]) r.2.2)
    else if sgI B n (sk B n p) 43 then pBd (pVal B n (sk B n p + 1) (E ++ wl w) c) (fun r => pSm B n f (some 2) r.1 r.2.1 r.2.2)
    else if sgI B n (sk B n p) 45 then pBd (pVal B n (sk B n p + 1) (E ++ wl w) c) (fun r => pSm B n f (some 3) r.1 r.2.1 r.2.2)
    else .inr (sk B n p, E ++ wl w, c)
def pSum (B : Nat → Nat) (n p : Nat) (E : Cd) (c : Nat) : PS := pBd (pVal B n p E c) (fun r => pSm B n 400 none r.1 r.2.1 r.2.2)
/-- which comparison stands here, and where it ends -/
def cmK (B : Nat → Nat) (n q : Nat) : Option (Nat × Nat) :=
  if q < n ∧ B q = 60 then some (if two B n q then (5, q + 2) else (4, q + 1))
  else if q < n ∧ B q = 61 then some (6, q + 1)
  else if q < n ∧ B q = 62 then some (if two B n q then (7, q + 2) else (8, q + 1))
  else none
def pCmp (B : Nat → Nat) (n p : Nat) (E : Cd) (c : Nat) : PS := pBd (pSum B n p E c) (fun r => match cmK B n r.1 with
  | none => .inl (ER r.1 0)
  | some k => if r.2.2 = 60 then .inl (ER r.1 3) else pBd (pSum B n k.2 r.2.1 (r.2.2 + 1)) (fun t => .inr (t.1, t.2.1 ++ [(k.1, 0)], t.2.2)))
def orL (b : Bool) : Cd := if b then [(11, 0)] else []
def pFtF (B : Nat → Nat) (n : Nat) (F : Bool → Nat → Nat → Cd → Nat → PS) (d p : Nat) (E : Cd) (c : Nat) : PS :=
  if wis B n (sk B n p) 2 then (if 10 ≤ d then .inl (ER (sk B n p) 2) else pBd (F false (d + 1) (sk B n p + 3) E c) (fun r => .inr (r.1, r.2.1 ++ [(9, 0)], r.2.2)))
  else if sgI B n (sk B n p) 91 then (if 10 ≤ d then .inl (ER (sk B n p) 2) else pBd (F true (d + 1) (sk B n p + 1) E c) (fun r => if sgI B n (sk B n r.1) 93 then .inr (sk B n r.1 + 1, r.2.1, r.2.2) else .inl (ER (sk B n r.1) 0)))
  else pCmp B n (sk B n p) E c
def pTl (B : Nat → Nat) (n : Nat) (F : Bool → Nat → Nat → Cd → Nat → PS) (d : Nat) : Nat → Bool → Nat → Cd → Nat → PS
  | 0, _, _, _, _ => .inl 1
  | f + 1, o, p, E, c =>
    if wis B n (sk B n p) 17 then pBd (F false d (sk B n p + 3) E c) (fun r => pTl B n F d f o r.1 (r.2.1 ++ [(10, 0)]) r.2.2)
    else if wis B n (sk B n p) 18 then pBd (F false d (sk B n p + 2) (E ++ orL o) c) (fun r => pTl B n F d f true r.1 r.2.1 r.2.2)
    else .inr (sk B n p, E ++ orL o, c)
def pTsF (B : Nat → Nat) (n : Nat) (F : Bool → Nat → Nat → Cd → Nat → PS) (d p : Nat) (E : Cd) (c : Nat) : PS := pBd (F false d p E c) (fun r => pTl B n F d 400 false r.1 r.2.1 r.2.2)
def pRec (B : Nat → Nat) (n : Nat) : Nat → Bool → Nat → Nat → Cd → Nat → PS
  | 0, _, _, _, _, _ => .inl 1
  | f + 1, true, d, p, E, c => pTsF B n (pRec B n f) d p E c
  | f + 1, false, d, p, E, c => pFtF B n (pRec B n f) d p E c
/-! types of a code -/
def tyL : Cd → List Bool → Option (List Bool)
  | [], T => some T
  | x :: X, T => (tst (nn x.1) T).bind (tyL X)
theorem tyL_app : ∀ {X Y : Cd} {T : List Bool}, tyL (X ++ Y) T = (tyL X T).bind (tyL Y)
  | [], Y, T => rfl
  | x :: X, Y, T => by
    show (tst (nn x.1) T).bind (tyL (X ++ Y)) = ((tst (nn x.1) T).bind (tyL X)).bind (tyL Y)
    cases tst (nn x.1) T with
    | none => rfl
    | some U => exact tyL_app
def cV (E : Cd) : Nat := E.countP (fun x => decide (x.1 = 0 ∨ x.1 = 1))
def cO (E : Cd) : Nat := E.countP (fun x => decide (x.1 = 9))
theorem cV_app {X Y : Cd} : cV (X ++ Y) = cV X + cV Y := List.countP_append
theorem cO_app {X Y : Cd} : cO (X ++ Y) = cO X + cO Y := List.countP_append
def kdB (x : Nat × Nat) : Prop := x.1 ≤ 14 ∧ (x.1 = 0 → x.2 ≤ 99999) ∧ (x.1 = 1 → x.2 < 7)
theorem tst_len {x : Nat} {T U : List Bool} (hx : x ≤ 14) (h : tst (nn x) T = some U) : U.length + (if x = 9 then 0 else if x = 0 ∨ x = 1 then 0 else 1) = T.length + (if x = 0 ∨ x = 1 then 1 else 0) := by
  have e : ∀ c, c < 2147483648 → (nn x = nn c ↔ x = c) := fun c hc => nn_eq (by omega) hc
  unfold tst at h
  have e0 := e 0 (by omega)
  have e1 := e 1 (by omega)
  have e2 := e 2 (by omega)
  have e3 := e 3 (by omega)
  have e4 := e 4 (by omega)
  have e5 := e 5 (by omega)
  have e6 := e 6 (by omega)
  have e7 := e 7 (by omega)
  have e8 := e 8 (by omega)
  have e9 := e 9 (by omega)
  have e10 := e 10 (by omega)
  have e11 := e 11 (by omega)
  have e13 := e 13 (by omega)
  have e14 := e 14 (by omega)
  rw [show (0 : Int32) = nn 0 from rfl, show (1 : Int32) = nn 1 from rfl, show (2 : Int32) = nn 2 from rfl, show (3 : Int32) = nn 3 from rfl, show (4 : Int32) = nn 4 from rfl, show (5 : Int32) = nn 5 from rfl, show (6 : Int32) = nn 6 from rfl, show (7 : Int32) = nn 7 from rfl, show (8 : Int32) = nn 8 from rfl, show (9 : Int32) = nn 9 from rfl, show (10 : Int32) = nn 10 from rfl, show (11 : Int32) = nn 11 from rfl, show (13 : Int32) = nn 13 from rfl, show (14 : Int32) = nn 14 from rfl] at h
  simp only [e0, e1, e2, e3, e4, e5, e6, e7, e8, e9, e10, e11, e13, e14] at h
  by_cases c01 : x = 0 ∨ x = 1
  · rw [if_pos c01] at h
    have := Option.some.inj h
    rw [← this, if_pos c01, if_pos c01, if_neg (by omega), List.length_cons]
  · rw [if_neg c01] at h
    rw [if_neg c01, if_neg c01]
    by_cases c9 : x = 9
    · rw [if_pos c9] at h ⊢
      match T, h with
      | true :: t, h => have := Option.some.inj h; rw [← this]
    · rw [if_neg c9] at h ⊢
      by_cases ca : x = 10 ∨ x = 11
      · rw [if_pos ca] at h
        match T, h with
        | true :: true :: t, h => have := Option.some.inj h; rw [← this]; simp
      · rw [if_neg ca] at h
        by_cases cb : x = 2 ∨ x = 3 ∨ x = 13 ∨ x = 14
        · rw [if_pos cb] at h
          match T, h with
          | false :: false :: t, h => have := Option.some.inj h; rw [← this]; simp
        · rw [if_neg cb] at h
          by_cases cc : x = 4 ∨ x = 5 ∨ x = 6 ∨ x = 7 ∨ x = 8
          · rw [if_pos cc] at h
            match T, h with
            | false :: false :: t, h => have := Option.some.inj h; rw [← this]; simp
          · rw [if_neg cc] at h
            cases h
theorem tyL_len : ∀ {E : Cd} {T U : List Bool}, (∀ x, x ∈ E → kdB x) → tyL E T = some U → U.length + E.length = T.length + 2 * cV E + cO E
  | [], T, U, _, h => by
    have := Option.some.inj h
    rw [← this]
    rfl
  | x :: X, T, U, hk, h => by
    have hx := hk x (by simp)
    have h : (tst (nn x.1) T).bind (tyL X) = some U := h
    cases q : tst (nn x.1) T with
    | none => rw [q] at h; cases h
    | some V =>
      rw [q] at h
      have a := tyL_len (fun y hy => hk y (by simp [hy])) (show tyL X V = some U from h)
      have b := tst_len hx.1 q
      have c1 : cV (x :: X) = cV X + (if x.1 = 0 ∨ x.1 = 1 then 1 else 0) := by
        unfold cV
        rw [List.countP_cons]
        by_cases c : x.1 = 0 ∨ x.1 = 1
        · rw [decide_eq_true c, if_pos rfl, if_pos c]
        · rw [decide_eq_false c, if_neg (by decide), if_neg c]
      have c2 : cO (x :: X) = cO X + (if x.1 = 9 then 1 else 0) := by
        unfold cO
        rw [List.countP_cons]
        by_cases c : x.1 = 9
        · rw [decide_eq_true c, if_pos rfl, if_pos c]
        · rw [decide_eq_false c, if_neg (by decide), if_neg c]
      rw [List.length_cons, c1, c2]
      by_cases c01 : x.1 = 0 ∨ x.1 = 1
      · rw [if_pos c01] at b ⊢
        rw [if_pos c01] at b
        have : ¬ x.1 = 9 := by omega
        rw [if_neg this] at b ⊢
        omega
      · rw [if_neg c01] at b ⊢
        rw [if_neg c01] at b
        by_cases c9 : x.1 = 9
        · rw [if_pos c9] at b ⊢
          omega
        · rw [if_neg c9] at b ⊢
          omega
/-- a state of the reading: place, code, count, types, nots that wait -/
def GI (n p : Nat) (E : Cd) (c : Nat) (U : List Bool) (m : Nat) : Prop := tyL E [] = some U ∧ (∀ x, x ∈ E → kdB x) ∧ cV E ≤ c ∧ 3 * (cO E + m) ≤ p ∧ c ≤ 60 ∧ p ≤ n ∧ n ≤ 400
theorem GI.len {n p c m : Nat} {E : Cd} {U : List Bool} (g : GI n p E c U m) : E.length ≤ 253 := by
  obtain ⟨h1, h2, h3, h4, h5, h6, h7⟩ := g
  have := tyL_len h2 h1
  rw [List.length_nil] at this
  omega
theorem GI.up {n p p2 c m : Nat} {E : Cd} {U : List Bool} (g : GI n p E c U m) (h : p ≤ p2) (h2 : p2 ≤ n) : GI n p2 E c U m := by
  obtain ⟨h1, h2, h3, h4, h5, h6, h7⟩ := g
  exact ⟨h1, h2, h3, by omega, h5, by omega, h7⟩
theorem kdB_snoc {E : Cd} {x : Nat × Nat} (h : ∀ y, y ∈ E → kdB y) (hx : kdB x) : ∀ y, y ∈ E ++ [x] → kdB y := by
  intro y hy
  rcases List.mem_append.mp hy with q | q
  · exact h y q
  · rw [List.mem_singleton.mp q]; exact hx
/-- a code of its own sort put behind -/
theorem GI.op {n p c m k : Nat} {E : Cd} {U V : List Bool} (g : GI n p E c U m) (h : tst (nn k) U = some V) (hk : k ≤ 14) (h0 : k ≠ 0) (h1 : k ≠ 1) (h9 : k ≠ 9) : GI n p (E ++ [(k, 0)]) c V m := by
  obtain ⟨a1, a2, a3, a4, a5, a6, a7⟩ := g
  refine ⟨?_, kdB_snoc a2 ⟨hk, fun q => absurd q h0, fun q => absurd q h1⟩, ?_, ?_, a5, a6, a7⟩
  · rw [tyL_app, a1]
    show (tst (nn k) U).bind (tyL []) = some V
    rw [h]
    rfl
  · rw [cV_app]
    have : cV [(k, 0)] = 0 := by
      unfold cV
      rw [List.countP_cons, decide_eq_false (show ¬ (k = 0 ∨ k = 1) by omega)]
      rfl
    omega
  · rw [cO_app]
    have : cO [(k, 0)] = 0 := by
      unfold cO
      rw [List.countP_cons, decide_eq_false (show ¬ k = 9 by omega)]
      rfl
    omega
theorem GI.no {n p c m : Nat} {E : Cd} {U : List Bool} (g : GI n p E c (true :: U) (m + 1)) : GI n p (E ++ [(9, 0)]) c (true :: U) m := by
  obtain ⟨a1, a2, a3, a4, a5, a6, a7⟩ := g
  refine ⟨?_, kdB_snoc a2 ⟨by decide, (fun q => by cases q), (fun q => by cases q)⟩, ?_, ?_, a5, a6, a7⟩
  · rw [tyL_app, a1]
    rfl
  · rw [cV_app]
    have : cV [(9, 0)] = 0 := rfl
    omega
  · rw [cO_app]
    have : cO [(9, 0)] = 1 := rfl
    omega
theorem GI.val {n p p2 c m k v : Nat} {E : Cd} {U : List Bool} (g : GI n p E c U m) (hk : k = 0 ∧ v ≤ 99999 ∨ k = 1 ∧ v < 7) (hc : c ≠ 60) (hp : p ≤ p2) (hp2 : p2 ≤ n) : GI n p2 (E ++ [(k, v)]) (c + 1) (false :: U) m := by
  obtain ⟨a1, a2, a3, a4, a5, a6, a7⟩ := g
  refine ⟨?_, kdB_snoc a2 ?_, ?_, ?_, by omega, hp2, a7⟩
  · rw [tyL_app, a1]
    rcases hk with ⟨rfl, _⟩ | ⟨rfl, _⟩ <;> rfl
  · rcases hk with ⟨rfl, h⟩ | ⟨rfl, h⟩
    · exact ⟨Nat.le_of_ble_eq_true rfl, fun _ => h, (fun q => by cases q)⟩
    · exact ⟨Nat.le_of_ble_eq_true rfl, (fun q => by cases q), fun _ => h⟩
  · rw [cV_app]
    have : cV [(k, v)] = 1 := by rcases hk with ⟨rfl, _⟩ | ⟨rfl, _⟩ <;> rfl
    omega
  · rw [cO_app]
    have : cO [(k, v)] = 0 := by rcases hk with ⟨rfl, _⟩ | ⟨rfl, _⟩ <;> rfl
    omega
theorem tst_ar {k : Nat} {T : List Bool} (h : k = 2 ∨ k = 3 ∨ k = 13 ∨ k = 14) : tst (nn k) (false :: false :: T) = some (false :: T) := by
  rcases h with rfl | rfl | rfl | rfl <;> rfl
theorem tst_cm {k : Nat} {T : List Bool} (h : k = 4 ∨ k = 5 ∨ k = 6 ∨ k = 7 ∨ k = 8) : tst (nn k) (false :: false :: T) = some (true :: T) := by
  rcases h with rfl | rfl | rfl | rfl | rfl <;> rfl
theorem tst_lo {k : Nat} {T : List Bool} (h : k = 10 ∨ k = 11) : tst (nn k) (true :: true :: T) = some (true :: T) := by
  rcases h with rfl | rfl <;> rfl
def PO (n p : Nat) (V : List Bool) (m : Nat) (r : Nat × Cd × Nat) : Prop := GI n r.1 r.2.1 r.2.2 V m ∧ p < r.1
theorem pVal_ok {B : Nat → Nat} {n p c m : Nat} {E : Cd} {U : List Bool} {r : Nat × Cd × Nat} (g : GI n p E c U m) (h : pVal B n p E c = .inr r) : PO n p (false :: U) m r ∧ sk B n p < r.1 := by
  have hp := g.2.2.2.2.2.1
  have hsk := sk_ge (B := B) (n := n) (p := p)
  have hskn := sk_le (B := B) hp
  unfold pVal at h
  by_cases cd : isD B n (sk B n p) = true
  · rw [if_pos cd] at h
    by_cases c5 : nd B n (sk B n p) - sk B n p ≤ 5
    · rw [if_pos c5] at h
      by_cases c6 : c = 60
      · rw [if_pos c6] at h; cases h
      · rw [if_neg c6] at h
        have h := Sum.inr.inj h
        have a := nd_gt cd
        have b := nd_le (B := B) hskn
        rw [← h]
        exact ⟨⟨g.val (.inl ⟨rfl, dv_5 (n := n) (by omega) c5⟩) c6 (by omega) b, by show p < nd B n (sk B n p); omega⟩, a⟩
    · rw [if_neg c5] at h; cases h
  · rw [if_neg cd] at h
    cases ha : amN B n (sk B n p) [12, 13, 14, 15, 7, 8, 16] 0 with
    | none => rw [ha] at h; cases h
    | some k =>
      rw [ha] at h
      have h : (if c = 60 then .inl (ER (sk B n p) 3) else .inr (wd B n (sk B n p), E ++ [(1, k)], c + 1)) = (.inr r : PS) := h
      by_cases c6 : c = 60
      · rw [if_pos c6] at h; cases h
      · rw [if_neg c6] at h
        have h := Sum.inr.inj h
        obtain ⟨k1, k2, w, k3, k4⟩ := amN_lt ha
        have k2 : k < 7 := by simpa using k2
        have a : sk B n p < wd B n (sk B n p) := by
          refine wd_gt ?_
          cases q : isL B n (sk B n p) with
          | true => rfl
          | false =>
            have hw : w < 19 := by
              rw [Nat.sub_zero] at k3
              have : k = 0 ∨ k = 1 ∨ k = 2 ∨ k = 3 ∨ k = 4 ∨ k = 5 ∨ k = 6 := by omega
              rcases this with rfl | rfl | rfl | rfl | rfl | rfl | rfl <;> (have := Option.some.inj k3; omega)
            rw [wis_no hw q] at k4
            cases k4
        have b := wd_le (B := B) hskn
        rw [← h]
        exact ⟨⟨g.val (.inr ⟨rfl, k2⟩) c6 (by omega) b, by show p < wd B n (sk B n p); omega⟩, a⟩
theorem sgI_lt {B : Nat → Nat} {n p c : Nat} (h : sgI B n p c = true) : p < n := by
  unfold sgI at h
  rw [Bool.and_eq_true, decide_eq_true_eq] at h
  exact h.1
def wU (w : Option Nat) (T : List Bool) : List Bool := match w with
  | none => false :: T
  | some _ => false :: false :: T
def wOK (w : Option Nat) : Prop := ∀ k, w = some k → k = 2 ∨ k = 3
theorem GI.wl {n p c m : Nat} {E : Cd} {T : List Bool} {w : Option Nat} (g : GI n p E c (wU w T) m) (hw : wOK w) : GI n p (E ++ wl w) c (false :: T) m := by
  cases w with
  | none => show GI n p (E ++ []) c _ m; rw [List.append_nil]; exact g
  | some k => exact g.op (tst_ar (by have := hw k rfl; omega)) (by have := hw k rfl; omega) (by have := hw k rfl; omega) (by have := hw k rfl; omega) (by have := hw k rfl; omega)
theorem pSm_ok {B : Nat → Nat} {n m : Nat} {T : List Bool} : ∀ {f p c : Nat} {w : Option Nat} {E : Cd} {r : Nat × Cd × Nat}, GI n p E c (wU w T) m → wOK w → pSm B n f w p E c = .inr r → GI n r.1 r.2.1 r.2.2 (false :: T) m ∧ p ≤ r.1 ∧ isS B n r.1 = false
  | 0, p, c, w, E, r, g, hw, h => by cases h
  | f + 1, p, c, w, E, r, g, hw, h => by
    have hp := g.2.2.2.2.2.1
    have hsk := sk_ge (B := B) (n := n) (p := p)
    have hskn := sk_le (B := B) hp
    unfold pSm at h
    by_cases c1 : sgI B n (sk B n p) 42 = true
    · have hl := sgI_lt c1
      rw [if_pos c1] at h
      obtain ⟨a, h1, h⟩ := pBd_r h
      have g1 := (pVal_ok (g.up (p2 := sk B n p + 1) (by omega) (by omega)) h1).1
      have g2 := GI.op (k := 13) g1.1 (show tst (nn 13) (false :: wU w T) = some (wU w T) by cases w <;> rfl) (by omega) (by omega) (by omega) (by omega)
      obtain ⟨q1, q2, q3⟩ := pSm_ok g2 hw h
      have := g1.2
      exact ⟨q1, by omega, q3⟩
    · rw [if_neg c1] at h
      by_cases c2 : sgI B n (sk B n p) 47 = true
      · have hl := sgI_lt c2
        rw [if_pos c2] at h
        obtain ⟨a, h1, h⟩ := pBd_r h
        have g1 := (pVal_ok (g.up (p2 := sk B n p + 1) (by omega) (by omega)) h1).1
        have g2 := GI.op (k := 14) g1.1 (show tst (nn 14) (false :: wU w T) = some (wU w T) by cases w <;> rfl) (by omega) (by omega) (by omega) (by omega)
        obtain ⟨q1, q2, q3⟩ := pSm_ok g2 hw h
        have := g1.2
        exact ⟨q1, by omega, q3⟩
      · rw [if_neg c2] at h
        by_cases c3 : sgI B n (sk B n p) 43 = true
        · have hl := sgI_lt c3
          rw [if_pos c3] at h
          obtain ⟨a, h1, h⟩ := pBd_r h
          have g1 := (pVal_ok ((GI.wl g hw).up (p2 := sk B n p + 1) (by omega) (by omega)) h1).1
          obtain ⟨q1, q2, q3⟩ := pSm_ok (w := some 2) (T := T) g1.1 (fun k q => by have := Option.some.inj q; omega) h
          have := g1.2
          exact ⟨q1, by omega, q3⟩
        · rw [if_neg c3] at h
          by_cases c4 : sgI B n (sk B n p) 45 = true
          · have hl := sgI_lt c4
            rw [if_pos c4] at h
            obtain ⟨a, h1, h⟩ := pBd_r h
            have g1 := (pVal_ok ((GI.wl g hw).up (p2 := sk B n p + 1) (by omega) (by omega)) h1).1
            obtain ⟨q1, q2, q3⟩ := pSm_ok (w := some 3) (T := T) g1.1 (fun k q => by have := Option.some.inj q; omega) h
            have := g1.2
            exact ⟨q1, by omega, q3⟩
          · rw [if_neg c4] at h
            have h := Sum.inr.inj h
            rw [← h]
            exact ⟨(GI.wl g hw).up (by omega) hskn, hsk, sk_end⟩
theorem pSum_ok {B : Nat → Nat} {n p c m : Nat} {E : Cd} {U : List Bool} {r : Nat × Cd × Nat} (g : GI n p E c U m) (h : pSum B n p E c = .inr r) : PO n p (false :: U) m r ∧ isS B n r.1 = false := by
  obtain ⟨a, h1, h⟩ := pBd_r h
  have g1 := (pVal_ok g h1).1
  obtain ⟨q1, q2, q3⟩ := pSm_ok (w := none) (T := U) g1.1 (fun k q => by cases q) h
  have := g1.2
  exact ⟨⟨q1, by omega⟩, q3⟩
theorem cmK_ok {B : Nat → Nat} {n q : Nat} {k : Nat × Nat} (h : cmK B n q = some k) : (k.1 = 4 ∨ k.1 = 5 ∨ k.1 = 6 ∨ k.1 = 7 ∨ k.1 = 8) ∧ q < k.2 ∧ k.2 ≤ n := by
  have tw : two B n q = true → q + 2 ≤ n := by
    intro t
    unfold two at t
    rw [Bool.and_eq_true, Bool.and_eq_true, decide_eq_true_eq, decide_eq_true_eq] at t
    omega
  unfold cmK at h
  by_cases c1 : q < n ∧ B q = 60
  · rw [if_pos c1] at h
    have h := Option.some.inj h
    by_cases t : two B n q = true
    · rw [if_pos t] at h
      have := tw t
      rw [← h]
      exact ⟨.inr (.inl rfl), by show q < q + 2; omega, this⟩
    · rw [if_neg t] at h
      rw [← h]
      exact ⟨.inl rfl, by show q < q + 1; omega, by show q + 1 ≤ n; omega⟩
  · rw [if_neg c1] at h
    by_cases c2 : q < n ∧ B q = 61
    · rw [if_pos c2] at h
      have h := Option.some.inj h
      rw [← h]
      exact ⟨.inr (.inr (.inl rfl)), by show q < q + 1; omega, by show q + 1 ≤ n; omega⟩
    · rw [if_neg c2] at h
      by_cases c3 : q < n ∧ B q = 62
      · rw [if_pos c3] at h
        have h := Option.some.inj h
        by_cases t : two B n q = true
        · rw [if_pos t] at h
          have := tw t
          rw [← h]
          exact ⟨.inr (.inr (.inr (.inl rfl))), by show q < q + 2; omega, this⟩
        · rw [if_neg t] at h
          rw [← h]
          exact ⟨.inr (.inr (.inr (.inr rfl))), by show q < q + 1; omega, by show q + 1 ≤ n; omega⟩
      · rw [if_neg c3] at h
        cases h
theorem pCmp_ok {B : Nat → Nat} {n p c m : Nat} {E : Cd} {U : List Bool} {r : Nat × Cd × Nat} (g : GI n p E c U m) (h : pCmp B n p E c = .inr r) : PO n p (true :: U) m r := by
  obtain ⟨a, h1, h⟩ := pBd_r h
  obtain ⟨g1, s1⟩ := pSum_ok g h1
  cases hk : cmK B n a.1 with
  | none => rw [hk] at h; cases h
  | some k =>
    rw [hk] at h
    have h : (if a.2.2 = 60 then .inl (ER a.1 3) else pBd (pSum B n k.2 a.2.1 (a.2.2 + 1)) (fun t => .inr (t.1, t.2.1 ++ [(k.1, 0)], t.2.2))) = (.inr r : PS) := h
    obtain ⟨k1, k2, k3⟩ := cmK_ok hk
    by_cases c6 : a.2.2 = 60
    · rw [if_pos c6] at h; cases h
    · rw [if_neg c6] at h
      obtain ⟨t, h2, h⟩ := pBd_r h
      have g2 : GI n k.2 a.2.1 (a.2.2 + 1) (false :: U) m := by
        obtain ⟨x1, x2, x3, x4, x5, x6, x7⟩ := g1.1
        exact ⟨x1, x2, by omega, by omega, by omega, k3, x7⟩
      obtain ⟨g3, s3⟩ := pSum_ok g2 h2
      have h := Sum.inr.inj h
      rw [← h]
      refine ⟨GI.op g3.1 (tst_cm k1) (by omega) (by omega) (by omega) (by omega), ?_⟩
      show p < t.1
      have := g3.2
      have := g1.2
      omega
