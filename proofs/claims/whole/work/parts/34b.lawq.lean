/-! A LAW IS READ: what the functions keep -/
def oU (o : Bool) (T : List Bool) : List Bool := if o then true :: true :: T else true :: T
theorem GI.orL {n p c m : Nat} {E : Cd} {T : List Bool} {o : Bool} (g : GI n p E c (oU o T) m) : GI n p (E ++ orL o) c (true :: T) m := by
  cases o with
  | false => show GI n p (E ++ []) c _ m; rw [List.append_nil]; exact g
  | true => exact g.op (k := 11) (tst_lo (by omega)) (by omega) (by omega) (by omega) (by omega)
theorem wis_le {B : Nat → Nat} {n p k : Nat} (hp : p ≤ n) (h : wis B n p k = true) : p + (wrd k).length ≤ n := by
  have := mtc_len h
  have := wd_le (B := B) hp
  omega
def FOK (n : Nat) (F : Bool → Nat → Nat → Cd → Nat → PS) : Prop := ∀ b d p E c U m r, GI n p E c U m → F b d p E c = .inr r → PO n p (true :: U) m r
theorem pTl_ok {B : Nat → Nat} {n m d : Nat} {T : List Bool} {F : Bool → Nat → Nat → Cd → Nat → PS} (hF : FOK n F) : ∀ {f p c : Nat} {o : Bool} {E : Cd} {r : Nat × Cd × Nat}, GI n p E c (oU o T) m → pTl B n F d f o p E c = .inr r → GI n r.1 r.2.1 r.2.2 (true :: T) m ∧ p ≤ r.1 ∧ isS B n r.1 = false ∧ wis B n r.1 17 = false ∧ wis B n r.1 18 = false
  | 0, p, c, o, E, r, g, h => by cases h
  | f + 1, p, c, o, E, r, g, h => by
    have hp := g.2.2.2.2.2.1
    have hsk := sk_ge (B := B) (n := n) (p := p)
    have hskn := sk_le (B := B) hp
    unfold pTl at h
    by_cases c1 : wis B n (sk B n p) 17 = true
    · have hl := wis_le hskn c1
      rw [show (wrd 17).length = 3 from rfl] at hl
      rw [if_pos c1] at h
      obtain ⟨a, h1, h⟩ := pBd_r h
      have g1 := hF _ _ _ _ _ _ _ _ (g.up (p2 := sk B n p + 3) (by omega) (by omega)) h1
      have g2 := GI.op (k := 10) g1.1 (show tst (nn 10) (true :: oU o T) = some (oU o T) by cases o <;> rfl) (by omega) (by omega) (by omega) (by omega)
      obtain ⟨q1, q2, q3⟩ := pTl_ok hF g2 h
      have := g1.2
      exact ⟨q1, by omega, q3⟩
    · rw [if_neg c1] at h
      by_cases c2 : wis B n (sk B n p) 18 = true
      · have hl := wis_le hskn c2
        rw [show (wrd 18).length = 2 from rfl] at hl
        rw [if_pos c2] at h
        obtain ⟨a, h1, h⟩ := pBd_r h
        have g1 := hF _ _ _ _ _ _ _ _ ((GI.orL g).up (p2 := sk B n p + 2) (by omega) (by omega)) h1
        obtain ⟨q1, q2, q3⟩ := pTl_ok (o := true) (T := T) hF g1.1 h
        have := g1.2
        exact ⟨q1, by omega, q3⟩
      · rw [if_neg c2] at h
        have h := Sum.inr.inj h
        rw [← h]
        exact ⟨(GI.orL g).up (by omega) hskn, hsk, sk_end, by simpa using c1, by simpa using c2⟩
theorem pRec_ok {B : Nat → Nat} {n : Nat} : ∀ f, FOK n (pRec B n f)
  | 0 => fun b d p E c U m r g h => by cases b <;> cases h
  | f + 1 => fun b d p E c U m r g h => by
    have hp := g.2.2.2.2.2.1
    have hsk := sk_ge (B := B) (n := n) (p := p)
    have hskn := sk_le (B := B) hp
    cases b with
    | true =>
      have h : pTsF B n (pRec B n f) d p E c = .inr r := h
      obtain ⟨a, h1, h⟩ := pBd_r h
      have g1 := pRec_ok f _ _ _ _ _ _ _ _ g h1
      obtain ⟨q1, q2, q3⟩ := pTl_ok (o := false) (T := U) (pRec_ok f) g1.1 h
      have := g1.2
      exact ⟨q1, by omega⟩
    | false =>
      have h : pFtF B n (pRec B n f) d p E c = .inr r := h
      unfold pFtF at h
      by_cases c1 : wis B n (sk B n p) 2 = true
      · have hl := wis_le hskn c1
        rw [show (wrd 2).length = 3 from rfl] at hl
        rw [if_pos c1] at h
        by_cases c10 : 10 ≤ d
        · rw [if_pos c10] at h; cases h
        · rw [if_neg c10] at h
          obtain ⟨a, h1, h⟩ := pBd_r h
          have g0 : GI n (sk B n p + 3) E c U (m + 1) := by
            obtain ⟨x1, x2, x3, x4, x5, x6, x7⟩ := g
            exact ⟨x1, x2, x3, by omega, x5, by omega, x7⟩
          have g1 := pRec_ok f _ _ _ _ _ _ _ _ g0 h1
          have h := Sum.inr.inj h
          rw [← h]
          refine ⟨GI.no g1.1, ?_⟩
          show p < a.1
          have := g1.2
          omega
      · rw [if_neg c1] at h
        by_cases c2 : sgI B n (sk B n p) 91 = true
        · have hl := sgI_lt c2
          rw [if_pos c2] at h
          by_cases c10 : 10 ≤ d
          · rw [if_pos c10] at h; cases h
          · rw [if_neg c10] at h
            obtain ⟨a, h1, h⟩ := pBd_r h
            have g1 := pRec_ok f _ _ _ _ _ _ _ _ (g.up (p2 := sk B n p + 1) (by omega) (by omega)) h1
            by_cases c3 : sgI B n (sk B n a.1) 93 = true
            · rw [if_pos c3] at h
              have hl := sgI_lt c3
              have hs2 := sk_ge (B := B) (n := n) (p := a.1)
              have h := Sum.inr.inj h
              rw [← h]
              refine ⟨g1.1.up (p2 := sk B n a.1 + 1) (by omega) (by omega), ?_⟩
              show p < sk B n a.1 + 1
              have := g1.2
              omega
            · rw [if_neg c3] at h; cases h
        · rw [if_neg c2] at h
          have g1 := pCmp_ok (g.up hsk hskn) h
          exact ⟨g1.1, by have := g1.2; omega⟩
/-! faults are numbers above 0 -/
theorem pVal_er {B : Nat → Nat} {n p c f : Nat} {E : Cd} (hp : p ≤ n) (h : pVal B n p E c = .inl f) : erB n f := by
  have hskn := sk_le (B := B) hp
  unfold pVal at h
  by_cases cd : isD B n (sk B n p) = true
  · rw [if_pos cd] at h
    by_cases c5 : nd B n (sk B n p) - sk B n p ≤ 5
    · rw [if_pos c5] at h
      by_cases c6 : c = 60
      · rw [if_pos c6] at h; rw [← Sum.inl.inj h]; exact ER_b hskn (by omega)
      · rw [if_neg c6] at h; cases h
    · rw [if_neg c5] at h; rw [← Sum.inl.inj h]; exact ER_b hskn (by omega)
  · rw [if_neg cd] at h
    cases ha : amN B n (sk B n p) [12, 13, 14, 15, 7, 8, 16] 0 with
    | none => rw [ha] at h; rw [← Sum.inl.inj h]; exact ER_b hskn (by omega)
    | some k =>
      rw [ha] at h
      have h : (if c = 60 then .inl (ER (sk B n p) 3) else .inr (wd B n (sk B n p), E ++ [(1, k)], c + 1)) = (.inl f : PS) := h
      by_cases c6 : c = 60
      · rw [if_pos c6] at h; rw [← Sum.inl.inj h]; exact ER_b hskn (by omega)
      · rw [if_neg c6] at h; cases h
theorem pVal_le {B : Nat → Nat} {n p c : Nat} {E : Cd} {r : Nat × Cd × Nat} (hp : p ≤ n) (h : pVal B n p E c = .inr r) : r.1 ≤ n := by
  have hskn := sk_le (B := B) hp
  unfold pVal at h
  by_cases cd : isD B n (sk B n p) = true
  · rw [if_pos cd] at h
    by_cases c5 : nd B n (sk B n p) - sk B n p ≤ 5
    · rw [if_pos c5] at h
      by_cases c6 : c = 60
      · rw [if_pos c6] at h; cases h
      · rw [if_neg c6] at h; rw [← Sum.inr.inj h]; exact nd_le hskn
    · rw [if_neg c5] at h; cases h
  · rw [if_neg cd] at h
    cases ha : amN B n (sk B n p) [12, 13, 14, 15, 7, 8, 16] 0 with
    | none => rw [ha] at h; cases h
    | some k =>
      rw [ha] at h
      have h : (if c = 60 then .inl (ER (sk B n p) 3) else .inr (wd B n (sk B n p), E ++ [(1, k)], c + 1)) = (.inr r : PS) := h
      by_cases c6 : c = 60
      · rw [if_pos c6] at h; cases h
      · rw [if_neg c6] at h; rw [← Sum.inr.inj h]; exact wd_le hskn
theorem er_1 {n : Nat} : erB n 1 := by unfold erB; omega
theorem pSm_er {B : Nat → Nat} {n : Nat} : ∀ {f p c k : Nat} {w : Option Nat} {E : Cd}, p ≤ n → pSm B n f w p E c = .inl k → erB n k
  | 0, p, c, k, w, E, hp, h => by rw [← Sum.inl.inj h]; exact er_1
  | f + 1, p, c, k, w, E, hp, h => by
    have hskn := sk_le (B := B) hp
    unfold pSm at h
    by_cases c1 : sgI B n (sk B n p) 42 = true
    · have hl := sgI_lt c1
      rw [if_pos c1] at h
      rcases pBd_l h with h | ⟨a, h1, h⟩
      · exact pVal_er (by omega) h
      · exact pSm_er (pVal_le (by omega) h1) h
    · rw [if_neg c1] at h
      by_cases c2 : sgI B n (sk B n p) 47 = true
      · have hl := sgI_lt c2
        rw [if_pos c2] at h
        rcases pBd_l h with h | ⟨a, h1, h⟩
        · exact pVal_er (by omega) h
        · exact pSm_er (pVal_le (by omega) h1) h
      · rw [if_neg c2] at h
        by_cases c3 : sgI B n (sk B n p) 43 = true
        · have hl := sgI_lt c3
          rw [if_pos c3] at h
          rcases pBd_l h with h | ⟨a, h1, h⟩
          · exact pVal_er (by omega) h
          · exact pSm_er (pVal_le (by omega) h1) h
        · rw [if_neg c3] at h
          by_cases c4 : sgI B n (sk B n p) 45 = true
          · have hl := sgI_lt c4
            rw [if_pos c4] at h
            rcases pBd_l h with h | ⟨a, h1, h⟩
            · exact pVal_er (by omega) h
            · exact pSm_er (pVal_le (by omega) h1) h
          · rw [if_neg c4] at h; cases h
theorem pSum_er {B : Nat → Nat} {n p c k : Nat} {E : Cd} (hp : p ≤ n) (h : pSum B n p E c = .inl k) : erB n k := by
  rcases pBd_l h with h | ⟨a, h1, h⟩
  · exact pVal_er hp h
  · exact pSm_er (pVal_le hp h1) h
theorem pSm_le {B : Nat → Nat} {n : Nat} : ∀ {f p c : Nat} {w : Option Nat} {E : Cd} {r : Nat × Cd × Nat}, p ≤ n → pSm B n f w p E c = .inr r → r.1 ≤ n
  | 0, p, c, w, E, r, hp, h => by cases h
  | f + 1, p, c, w, E, r, hp, h => by
    have hskn := sk_le (B := B) hp
    unfold pSm at h
    by_cases c1 : sgI B n (sk B n p) 42 = true
    · have hl := sgI_lt c1
      rw [if_pos c1] at h
      obtain ⟨a, h1, h⟩ := pBd_r h
      exact pSm_le (pVal_le (by omega) h1) h
    · rw [if_neg c1] at h
      by_cases c2 : sgI B n (sk B n p) 47 = true
      · have hl := sgI_lt c2
        rw [if_pos c2] at h
        obtain ⟨a, h1, h⟩ := pBd_r h
        exact pSm_le (pVal_le (by omega) h1) h
      · rw [if_neg c2] at h
        by_cases c3 : sgI B n (sk B n p) 43 = true
        · have hl := sgI_lt c3
          rw [if_pos c3] at h
          obtain ⟨a, h1, h⟩ := pBd_r h
          exact pSm_le (pVal_le (by omega) h1) h
        · rw [if_neg c3] at h
          by_cases c4 : sgI B n (sk B n p) 45 = true
          · have hl := sgI_lt c4
            rw [if_pos c4] at h
            obtain ⟨a, h1, h⟩ := pBd_r h
            exact pSm_le (pVal_le (by omega) h1) h
          · rw [if_neg c4] at h; rw [← Sum.inr.inj h]; exact hskn
theorem pSum_le {B : Nat → Nat} {n p c : Nat} {E : Cd} {r : Nat × Cd × Nat} (hp : p ≤ n) (h : pSum B n p E c = .inr r) : r.1 ≤ n := by
  obtain ⟨a, h1, h⟩ := pBd_r h
  exact pSm_le (pVal_le hp h1) h
theorem pCmp_er {B : Nat → Nat} {n p c k : Nat} {E : Cd} (hp : p ≤ n) (h : pCmp B n p E c = .inl k) : erB n k := by
  rcases pBd_l h with h | ⟨a, h1, h⟩
  · exact pSum_er hp h
  · have ha := pSum_le hp h1
    cases hk : cmK B n a.1 with
    | none => rw [hk] at h; rw [← Sum.inl.inj h]; exact ER_b ha (by omega)
    | some q =>
      rw [hk] at h
      have h : (if a.2.2 = 60 then .inl (ER a.1 3) else pBd (pSum B n q.2 a.2.1 (a.2.2 + 1)) (fun t => .inr (t.1, t.2.1 ++ [(q.1, 0)], t.2.2))) = (.inl k : PS) := h
      by_cases c6 : a.2.2 = 60
      · rw [if_pos c6] at h; rw [← Sum.inl.inj h]; exact ER_b ha (by omega)
      · rw [if_neg c6] at h
        rcases pBd_l h with h | ⟨b, h2, h⟩
        · exact pSum_er (cmK_ok hk).2.2 h
        · cases h
