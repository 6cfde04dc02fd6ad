/-! A LAW IS READ: the clauses, as functions -/
abbrev LCl : Type := Nat × Nat × Nat × Nat × Nat × Bool
def lcP (B : Nat → Nat) (n cnt p : Nat) (E : Cd) (c : Nat) : Nat ⊕ (LCl × Nat × Cd × Nat) :=
  if wis B n (sk B n p) 10 then (if cnt = 12 then .inl (ER (sk B n p) 4) else pBd (pNum B n (sk B n p + 5) 0 3) (fun a => pBd (pNum B n a.2 0 3) (fun b => pBd (pNum B n b.2 1 5) (fun d => .inr ((a.1, b.1, d.1, E.length, E.length, false), d.2, E, c)))))
  else if wis B n (sk B n p) 11 then (if cnt = 12 then .inl (ER (sk B n p) 4) else pBd (pNum B n (sk B n p + 3) 0 3) (fun a => pBd (pRec B n 31 true 0 a.2 E c) (fun r => .inr ((a.1, 0, 0, E.length, r.2.1.length, true), r.1, r.2.1, r.2.2))))
  else .inl (ER (sk B n p) 0)
def lwP (B : Nat → Nat) (n : Nat) : Nat → Nat → Cd → Nat → List LCl → Nat ⊕ (List LCl × Cd)
  | 0, _, _, _, _ => .inl 1
  | f + 1, p, E, c, Cs => pBd (lcP B n Cs.length p E c) (fun a => if n ≤ sk B n a.2.1 then .inr (Cs ++ [a.1], a.2.2.1) else if B (sk B n a.2.1) = 59 then lwP B n f (sk B n a.2.1 + 1) a.2.2.1 a.2.2.2 (Cs ++ [a.1]) else .inl (ER (sk B n a.2.1) 0))
/-! the code of a test stands alone -/
def pMp (E0 : Cd) (r : PS) : PS := match r with
  | .inl f => .inl f
  | .inr r => .inr (r.1, E0 ++ r.2.1, r.2.2)
theorem pBd_mp {E0 : Cd} {x : PS} {k k2 : Nat × Cd × Nat → PS} (h : ∀ r, k (r.1, E0 ++ r.2.1, r.2.2) = pMp E0 (k2 r)) : pBd (pMp E0 x) k = pMp E0 (pBd x k2) := by
  cases x with
  | inl f => rfl
  | inr r => exact h r
theorem pVal_ap {B : Nat → Nat} {n p c : Nat} {E0 E1 : Cd} : pVal B n p (E0 ++ E1) c = pMp E0 (pVal B n p E1 c) := by
  unfold pVal
  by_cases cd : isD B n (sk B n p) = true
  · rw [if_pos cd, if_pos cd]
    by_cases c5 : nd B n (sk B n p) - sk B n p ≤ 5
    · rw [if_pos c5, if_pos c5]
      by_cases c6 : c = 60
      · rw [if_pos c6, if_pos c6]; rfl
      · rw [if_neg c6, if_neg c6, List.append_assoc]; rfl
    · rw [if_neg c5, if_neg c5]; rfl
  · rw [if_neg cd, if_neg cd]
    cases amN B n (sk B n p) [12, 13, 14, 15, 7, 8, 16] 0 with
    | none => rfl
    | some k =>
      show (if c = 60 then _ else _) = pMp E0 (if c = 60 then _ else _)
      by_cases c6 : c = 60
      · rw [if_pos c6, if_pos c6]; rfl
      · rw [if_neg c6, if_neg c6, List.append_assoc]; rfl
theorem pSm_ap {B : Nat → Nat} {n : Nat} {E0 : Cd} : ∀ {f p c : Nat} {w : Option Nat} {E1 : Cd}, pSm B n f w p (E0 ++ E1) c = pMp E0 (pSm B n f w p E1 c)
  | 0, p, c, w, E1 => rfl
  | f + 1, p, c, w, E1 => by
    unfold pSm
    by_cases c1 : sgI B n (sk B n p) 42 = true
    · rw [if_pos c1, if_pos c1, pVal_ap]
      exact pBd_mp (fun r => by dsimp only; rw [List.append_assoc]; exact pSm_ap)
    · rw [if_neg c1, if_neg c1]
      by_cases c2 : sgI B n (sk B n p) 47 = true
      · rw [if_pos c2, if_pos c2, pVal_ap]
        exact pBd_mp (fun r => by dsimp only; rw [List.append_assoc]; exact pSm_ap)
      · rw [if_neg c2, if_neg c2]
        by_cases c3 : sgI B n (sk B n p) 43 = true
        · rw [if_pos c3, if_pos c3, List.append_assoc, pVal_ap]
          exact pBd_mp (fun r => pSm_ap)
        · rw [if_neg c3, if_neg c3]
          by_cases c4 : sgI B n (sk B n p) 45 = true
          · rw [if_pos c4, if_pos c4, List.append_assoc, pVal_ap]
            exact pBd_mp (fun r => pSm_ap)
          · rw [if_neg c4, if_neg c4, List.append_assoc]
            rfl
theorem pSum_ap {B : Nat → Nat} {n p c : Nat} {E0 E1 : Cd} : pSum B n p (E0 ++ E1) c = pMp E0 (pSum B n p E1 c) := by
  unfold pSum
  rw [pVal_ap]
  exact pBd_mp (fun r => pSm_ap)
theorem pCmp_ap {B : Nat → Nat} {n p c : Nat} {E0 E1 : Cd} : pCmp B n p (E0 ++ E1) c = pMp E0 (pCmp B n p E1 c) := by
  cases q : pSum B n p E1 c with
  | inl e =>
    have q0 : pSum B n p (E0 ++ E1) c = .inl e := by rw [pSum_ap, q]; rfl
    rw [pCmp_0 q, pCmp_0 q0]
    rfl
  | inr r =>
    have q0 : pSum B n p (E0 ++ E1) c = .inr (r.1, E0 ++ r.2.1, r.2.2) := by rw [pSum_ap, q]; rfl
    cases hk : cmK B n r.1 with
    | none => rw [pCmp_1 q hk, pCmp_1 q0 hk]; rfl
    | some k =>
      by_cases c6 : r.2.2 = 60
      · rw [pCmp_2 q hk c6, pCmp_2 q0 hk c6]; rfl
      · rw [pCmp_3 q hk c6, pCmp_3 q0 hk c6]
        show pBd (pSum B n k.2 (E0 ++ r.2.1) (r.2.2 + 1)) _ = _
        rw [pSum_ap]
        exact pBd_mp (fun t => by dsimp only; rw [List.append_assoc]; rfl)
def FAP (F : Bool → Nat → Nat → Cd → Nat → PS) : Prop := ∀ b d p E0 E1 c, F b d p (E0 ++ E1) c = pMp E0 (F b d p E1 c)
theorem pTl_ap {B : Nat → Nat} {n d : Nat} {E0 : Cd} {F : Bool → Nat → Nat → Cd → Nat → PS} (hF : FAP F) : ∀ {f p c : Nat} {o : Bool} {E1 : Cd}, pTl B n F d f o p (E0 ++ E1) c = pMp E0 (pTl B n F d f o p E1 c)
  | 0, p, c, o, E1 => rfl
  | f + 1, p, c, o, E1 => by
    unfold pTl
    by_cases c1 : wis B n (sk B n p) 17 = true
    · rw [if_pos c1, if_pos c1, hF]
      exact pBd_mp (fun r => by dsimp only; rw [List.append_assoc]; exact pTl_ap hF)
    · rw [if_neg c1, if_neg c1]
      by_cases c2 : wis B n (sk B n p) 18 = true
      · rw [if_pos c2, if_pos c2, List.append_assoc, hF]
        exact pBd_mp (fun r => pTl_ap hF)
      · rw [if_neg c2, if_neg c2, List.append_assoc]
        rfl
theorem pRec_ap {B : Nat → Nat} {n : Nat} : ∀ f, FAP (pRec B n f)
  | 0 => fun b d p E0 E1 c => by cases b <;> rfl
  | f + 1 => fun b d p E0 E1 c => by
    cases b with
    | true =>
      show pTsF B n (pRec B n f) d p (E0 ++ E1) c = pMp E0 (pTsF B n (pRec B n f) d p E1 c)
      unfold pTsF
      rw [pRec_ap f]
      exact pBd_mp (fun r => pTl_ap (pRec_ap f))
    | false =>
      show pFtF B n (pRec B n f) d p (E0 ++ E1) c = pMp E0 (pFtF B n (pRec B n f) d p E1 c)
      unfold pFtF
      by_cases c1 : wis B n (sk B n p) 2 = true
      · rw [if_pos c1, if_pos c1]
        by_cases c10 : 10 ≤ d
        · rw [if_pos c10, if_pos c10]; rfl
        · rw [if_neg c10, if_neg c10, pRec_ap f]
          exact pBd_mp (fun r => by dsimp only; rw [List.append_assoc]; rfl)
      · rw [if_neg c1, if_neg c1]
        by_cases c2 : sgI B n (sk B n p) 91 = true
        · rw [if_pos c2, if_pos c2]
          by_cases c10 : 10 ≤ d
          · rw [if_pos c10, if_pos c10]; rfl
          · rw [if_neg c10, if_neg c10, pRec_ap f]
            exact pBd_mp (fun r => by
              dsimp only
              by_cases c3 : sgI B n (sk B n r.1) 93 = true
              · rw [if_pos c3, if_pos c3]; rfl
              · rw [if_neg c3, if_neg c3]; rfl)
        · rw [if_neg c2, if_neg c2]
          exact pCmp_ap
/-- a test read: its own code, and what it says -/
theorem pRec_seg {B : Nat → Nat} {n p c m : Nat} {E : Cd} {U : List Bool} {r : Nat × Cd × Nat} (g : GI n p E c U m) (h : pRec B n 31 true 0 p E c = .inr r) : ∃ X, r.2.1 = E ++ X ∧ tyL X [] = some [true] ∧ cV X ≤ 60 ∧ (∀ x, x ∈ X → kdB x) := by
  have e := pRec_ap (B := B) (n := n) 31 true 0 p E [] c
  rw [List.append_nil, h] at e
  have g0 : GI n p [] c [] 0 := ⟨rfl, (fun x hx => by cases hx), Nat.zero_le _, Nat.zero_le _, g.2.2.2.2.1, g.2.2.2.2.2.1, g.2.2.2.2.2.2⟩
  cases q : pRec B n 31 true 0 p [] c with
  | inl f => rw [q] at e; cases e
  | inr t =>
    rw [q] at e
    have e := Sum.inr.inj e
    have gt := (pRec_ok 31 _ _ _ _ _ _ _ _ g0 q).1
    refine ⟨t.2.1, by rw [e], gt.1, ?_, gt.2.1⟩
    have := gt.2.2.1
    have := gt.2.2.2.2.1
    omega
/-! what a law read so far keeps -/
def dfC : LCl := (0, 0, 0, 0, 0, false)
def gc (Cs : List LCl) (i : Nat) : LCl := Cs.getD i dfC
def bb (Cs : List LCl) (i : Nat) : Bool := (gc Cs i).2.2.2.2.2
def ab (Cs : List LCl) (i : Nat) : Bool := !bb Cs i
theorem gc_old {Cs : List LCl} {x : LCl} {i : Nat} (h : i < Cs.length) : gc (Cs ++ [x]) i = gc Cs i := by
  unfold gc
  rw [List.getD_eq_getElem?_getD, List.getD_eq_getElem?_getD, List.getElem?_append_left h]
theorem gc_new {Cs : List LCl} {x : LCl} : gc (Cs ++ [x]) Cs.length = x := by
  unfold gc
  rw [List.getD_eq_getElem?_getD, List.getElem?_append_right (Nat.le_refl _), Nat.sub_self]
  rfl
theorem cntb_old {Cs : List LCl} {x : LCl} {i : Nat} (h : i ≤ Cs.length) : cnt (bb (Cs ++ [x])) i = cnt (bb Cs) i := cnt_congr (fun k hk => by unfold bb; rw [gc_old (by omega)])
theorem cnta_old {Cs : List LCl} {x : LCl} {i : Nat} (h : i ≤ Cs.length) : cnt (ab (Cs ++ [x])) i = cnt (ab Cs) i := cnt_congr (fun k hk => by unfold ab bb; rw [gc_old (by omega)])
/-- the end of the last bar's code -/
def lb (Cs : List LCl) : Nat → Nat
  | 0 => 0
  | i + 1 => if bb Cs i then (gc Cs i).2.2.2.2.1 else lb Cs i
theorem lb_old {Cs : List LCl} {x : LCl} : ∀ {i : Nat}, i ≤ Cs.length → lb (Cs ++ [x]) i = lb Cs i
  | 0, _ => rfl
  | i + 1, h => by
    unfold lb
    have e : bb (Cs ++ [x]) i = bb Cs i := by unfold bb; rw [gc_old (by omega)]
    rw [e, gc_old (by omega), lb_old (by omega)]
def CGd (E : Cd) (x : LCl) : Prop := x.1 ≤ 3 ∧ (x.2.2.2.2.2 = false → x.2.1 ≤ 3 ∧ x.2.2.1 ≤ 5) ∧ (x.2.2.2.2.2 = true → ∃ X Y Z, E = X ++ Y ++ Z ∧ X.length = x.2.2.2.1 ∧ X.length + Y.length = x.2.2.2.2.1 ∧ tyL Y [] = some [true] ∧ cV Y ≤ 60 ∧ ∀ y, y ∈ Y → kdB y)
theorem CGd_up {E X : Cd} {x : LCl} (h : CGd E x) : CGd (E ++ X) x := by
  refine ⟨h.1, h.2.1, fun q => ?_⟩
  obtain ⟨A, Y, Z, e, r⟩ := h.2.2 q
  exact ⟨A, Y, Z ++ X, by rw [e]; simp only [List.append_assoc], r⟩
def LI (n p : Nat) (E : Cd) (c : Nat) (Cs : List LCl) : Prop := (∃ U, GI n p E c U 0) ∧ (∀ i, i < Cs.length → CGd E (gc Cs i)) ∧ (∀ i, i < Cs.length → bb Cs i = true → (gc Cs i).2.2.2.1 = lb Cs i) ∧ lb Cs Cs.length = E.length
theorem LI_0 {n : Nat} (h : n ≤ 400) : LI n 0 [] 0 [] := ⟨⟨[], rfl, (fun x hx => by cases hx), Nat.le_refl _, Nat.le_refl _, by omega, by omega, h⟩, fun i hi => absurd hi (Nat.not_lt_zero _), fun i hi => absurd hi (Nat.not_lt_zero _), rfl⟩
theorem lcP_ok {B : Nat → Nat} {n p c : Nat} {E : Cd} {Cs : List LCl} {a : LCl × Nat × Cd × Nat} (l : LI n p E c Cs) (h : lcP B n Cs.length p E c = .inr a) : LI n a.2.1 a.2.2.1 a.2.2.2 (Cs ++ [a.1]) ∧ p < a.2.1 ∧ Cs.length ≠ 12 := by
  obtain ⟨⟨U, g⟩, l1, l2, l3⟩ := l
  have hp := g.2.2.2.2.2.1
  have hsk := sk_ge (B := B) (n := n) (p := p)
  have hskn := sk_le (B := B) hp
  have fin : LI n a.2.1 a.2.2.1 a.2.2.2 (Cs ++ [a.1]) ∧ p < a.2.1 ∧ Cs.length ≠ 12 := by
    unfold lcP at h
    by_cases c1 : wis B n (sk B n p) 10 = true
    · have hl := wis_le hskn c1
      rw [show (wrd 10).length = 5 from rfl] at hl
      rw [if_pos c1] at h
      by_cases c12 : Cs.length = 12
      · rw [if_pos c12] at h; cases h
      · rw [if_neg c12] at h
        obtain ⟨⟨v1, e1⟩, h1, h⟩ := pBd_r h
        obtain ⟨⟨v2, e2⟩, h2, h⟩ := pBd_r h
        obtain ⟨⟨v3, e3⟩, h3, h⟩ := pBd_r h
        have a1 := pNum_ok h1 hl
        have a2 := pNum_ok h2 (show e1 ≤ n by omega)
        have a3 := pNum_ok h3 (show e2 ≤ n by omega)
        dsimp only at a2 a3
        have h := Sum.inr.inj h
        rw [← h]
        refine ⟨⟨⟨U, g.up (p2 := e3) (by omega) (by omega)⟩, fun i hi => ?_, fun i hi hb => ?_, ?_⟩, by show p < e3; omega, c12⟩
        · rw [List.length_append] at hi
          have hi : i < Cs.length + 1 := hi
          by_cases ci : i = Cs.length
          · subst ci
            rw [gc_new]
            exact ⟨by show v1 ≤ 3; omega, fun _ => ⟨by show v2 ≤ 3; omega, by show v3 ≤ 5; omega⟩, (fun q => by cases q)⟩
          · rw [gc_old (by omega)]
            exact l1 i (by omega)
        · rw [List.length_append] at hi
          have hi : i < Cs.length + 1 := hi
          by_cases ci : i = Cs.length
          · subst ci
            unfold bb at hb
            rw [gc_new] at hb
            cases hb
          · have hb2 : bb Cs i = true := by
              unfold bb at hb ⊢
              rw [gc_old (by omega)] at hb
              exact hb
            rw [gc_old (by omega), lb_old (by omega)]
            exact l2 i (by omega) hb2
        · rw [List.length_append]
          show lb _ (Cs.length + 1) = E.length
          unfold lb bb
          rw [gc_new]
          show (if false = true then _ else _) = _
          rw [if_neg (by decide), lb_old (Nat.le_refl _)]
          exact l3
    · rw [if_neg c1] at h
      by_cases c2 : wis B n (sk B n p) 11 = true
      · have hl := wis_le hskn c2
        rw [show (wrd 11).length = 3 from rfl] at hl
        rw [if_pos c2] at h
        by_cases c12 : Cs.length = 12
        · rw [if_pos c12] at h; cases h
        · rw [if_neg c12] at h
          obtain ⟨⟨v1, e1⟩, h1, h⟩ := pBd_r h
          obtain ⟨r, h2, h⟩ := pBd_r h
          have a1 := pNum_ok h1 hl
          have g0 := g.up (p2 := e1) (by omega) (by omega)
          obtain ⟨gr, hlt⟩ := pRec_ok 31 _ _ _ _ _ _ _ _ g0 h2
          obtain ⟨X, x1, x2, x3, x4⟩ := pRec_seg g0 h2
          have h := Sum.inr.inj h
          rw [← h]
          refine ⟨⟨⟨true :: U, gr⟩, fun i hi => ?_, fun i hi hb => ?_, ?_⟩, by show p < r.1; omega, c12⟩
          · rw [List.length_append] at hi
            have hi : i < Cs.length + 1 := hi
            by_cases ci : i = Cs.length
            · subst ci
              rw [gc_new]
              refine ⟨by show v1 ≤ 3; omega, (fun q => by cases q), fun _ => ⟨E, X, [], by show r.2.1 = _; rw [x1, List.append_nil], rfl, ?_, x2, x3, x4⟩⟩
              show E.length + X.length = r.2.1.length
              rw [x1, List.length_append]
            · rw [gc_old (by omega)]
              show CGd r.2.1 _
              rw [x1]
              exact CGd_up (l1 i (by omega))
          · rw [List.length_append] at hi
            have hi : i < Cs.length + 1 := hi
            by_cases ci : i = Cs.length
            · subst ci
              rw [gc_new, lb_old (Nat.le_refl _), l3]
            · have hb2 : bb Cs i = true := by
                unfold bb at hb ⊢
                rw [gc_old (by omega)] at hb
                exact hb
              rw [gc_old (by omega), lb_old (by omega)]
              exact l2 i (by omega) hb2
          · rw [List.length_append]
            show lb _ (Cs.length + 1) = r.2.1.length
            unfold lb bb
            rw [gc_new]
            rfl
      · rw [if_neg c2] at h; cases h
  exact fin
theorem lcP_er {B : Nat → Nat} {n p c cnt f : Nat} {E : Cd} {Cs : List LCl} (l : LI n p E c Cs) (h : lcP B n cnt p E c = .inl f) : erB n f := by
  obtain ⟨⟨U, g⟩, l1, l2, l3⟩ := l
  have hp := g.2.2.2.2.2.1
  have hskn := sk_le (B := B) hp
  have hsk := sk_ge (B := B) (n := n) (p := p)
  unfold lcP at h
  by_cases c1 : wis B n (sk B n p) 10 = true
  · have hl := wis_le hskn c1
    rw [show (wrd 10).length = 5 from rfl] at hl
    rw [if_pos c1] at h
    by_cases c12 : cnt = 12
    · rw [if_pos c12] at h; rw [← Sum.inl.inj h]; exact ER_b hskn (by omega)
    · rw [if_neg c12] at h
      rcases pBd_l h with h | ⟨⟨v1, e1⟩, h1, h⟩
      · exact pNum_er h hl
      · have a1 := pNum_ok h1 hl
        rcases pBd_l h with h | ⟨⟨v2, e2⟩, h2, h⟩
        · exact pNum_er h (show e1 ≤ n by omega)
        · have a2 := pNum_ok h2 (show e1 ≤ n by omega)
          rcases pBd_l h with h | ⟨⟨v3, e3⟩, h3, h⟩
          · exact pNum_er h (show e2 ≤ n by omega)
          · cases h
  · rw [if_neg c1] at h
    by_cases c2 : wis B n (sk B n p) 11 = true
    · have hl := wis_le hskn c2
      rw [show (wrd 11).length = 3 from rfl] at hl
      rw [if_pos c2] at h
      by_cases c12 : cnt = 12
      · rw [if_pos c12] at h; rw [← Sum.inl.inj h]; exact ER_b hskn (by omega)
      · rw [if_neg c12] at h
        rcases pBd_l h with h | ⟨⟨v1, e1⟩, h1, h⟩
        · exact pNum_er h hl
        · have a1 := pNum_ok h1 hl
          rcases pBd_l h with h | ⟨r, h2, h⟩
          · exact pRec_er 31 _ _ _ _ _ _ _ _ (g.up (p2 := e1) (by omega) (by omega)) h
          · cases h
    · rw [if_neg c2] at h; rw [← Sum.inl.inj h]; exact ER_b hskn (by omega)
