/-! A LAW IS READ: the class's tests -/
theorem am_1 {B : Nat → Nat} {n q k : Nat} : amR B n q [k] 0 = if wis B n q k then 0 else -1 := by
  unfold amR
  by_cases c : wis B n q k = true
  · rw [if_pos c, if_pos c]; rfl
  · rw [if_neg c, if_neg c]; rfl
theorem am_2 {B : Nat → Nat} {n q k j : Nat} : amR B n q [k, j] 0 = if wis B n q k then 0 else if wis B n q j then 1 else -1 := by
  unfold amR
  by_cases c : wis B n q k = true
  · rw [if_pos c, if_pos c]; rfl
  · rw [if_neg c, if_neg c]
    unfold amR
    by_cases c2 : wis B n q j = true
    · rw [if_pos c2, if_pos c2]; rfl
    · rw [if_neg c2, if_neg c2]; rfl
theorem tkE_w {B : Nat → Nat} {n q k : Nat} (hk : k < 19) (h : wis B n q k = true) : tkE B n q = q + (wrd k).length := by
  obtain ⟨h1, h2⟩ := wis_L hk h
  rw [(tkE_L h1).1, h2]
theorem tkE_s1 {B : Nat → Nat} {n q c : Nat} (h : sgI B n q c = true) (h1 : ¬ (48 ≤ c ∧ c ≤ 57)) (h2 : ¬ (97 ≤ c ∧ c ≤ 122)) (h3 : c ≠ 60 ∧ c ≠ 62) : tkE B n q = q + 1 := by
  obtain ⟨k1, k2, k3⟩ := tk_sg h h1 h2
  rw [two_no (by rw [(sgI_b h).2]; exact h3), if_neg (by decide)] at k3
  exact k3
/-- both functions at one depth -/
def FKC (a : Nat) (B : Nat → Nat) (n : Nat) (F : Bool → Nat → Nat → Cd → Nat → PS) (G : Bool → Int32 → qa_M → Option (Int32 × qa_M)) (b : Bool) (d : Nat) : Prop := ∀ p E c U m h, GI n p E c U m → LC a B n p E c h → qW (G b (nn d) h) (LPc a B n (F b d p E c))
theorem k_fact0 {a : Nat} {B : Nat → Nat} {n d : Nat} {F : Bool → Nat → Nat → Cd → Nat → PS} {G : Bool → Int32 → qa_M → Option (Int32 × qa_M)} (hA : qLaw a) (hd : d ≤ 10) (hF : FOK n F) (h1 : d < 10 → FKC a B n F G true (d + 1)) (h2 : d < 10 → FKC a B n F G false (d + 1)) {p c m : Nat} {E : Cd} {U : List Bool} {h : qa_M} (g : GI n p E c U m) (lc : LC a B n p E c h) :
    qW (m_X6_readFact_F G (nn d) h) (LPc a B n (pFtF B n F d p E c)) := by
  have hp := g.2.2.2.2.2.1
  have hsk := sk_ge (B := B) (n := n) (p := p)
  have hskn := sk_le (B := B) hp
  have e4 := lc.2.1.1
  unfold m_X6_readFact_F pFtF
  rw [k_among lc.1 lc.2.1 (by omega), qbn_s, show wls 2 = [2] from rfl, am_1]
  by_cases c1 : wis B n (sk B n p) 2 = true
  · have hl := wis_le hskn c1
    rw [show (wrd 2).length = 3 from rfl] at hl
    rw [if_pos c1, if_pos rfl, if_pos c1]
    unfold f_X6_readFact_b17 f_X6_readFact_b68
    rw [qbd_e, if_neg (by decide)]
    by_cases c10 : 10 ≤ d
    · rw [if_pos c10, if_neg (fun q => by rw [show (10 : Int32) = nn 10 from rfl, nn_lt (by omega) (by omega)] at q; omega), show (2 : Int32) = nn 2 from rfl, k_fail lc.2.2.1 e4, qbn_s, qpr_t (by decide), qW_some]
      exact ⟨rfl, wI_at⟩
    · rw [if_neg c10, if_pos (by exact (nn_lt (b := 10) (by omega) (by omega)).mpr (by omega)), qW_bv]
      refine qW_mono (LC_scan hA lc (tkE_w (by omega) c1) hp) ?_
      intro g1 lc1
      rw [if_neg (by decide), qW_bn, nn_add1]
      have g0 : GI n (sk B n p + 3) E c U (m + 1) := by
        obtain ⟨x1, x2, x3, x4, x5, x6, x7⟩ := g
        exact ⟨x1, x2, x3, by omega, x5, by omega, x7⟩
      refine qW_mono (h2 (by omega) _ _ _ _ _ _ g0 lc1) ?_
      rintro ⟨x, g2⟩ hz
      cases q : F false (d + 1) (sk B n p + 3) E c with
      | inl e =>
        rw [q] at hz
        obtain ⟨z1, z2⟩ := hz
        have z1 : x = 0 := z1
        subst z1
        rw [if_pos rfl, qW_some]
        exact ⟨rfl, z2⟩
      | inr r =>
        rw [q] at hz
        obtain ⟨z1, lc2⟩ := hz
        have z1 : x = 1 := z1
        subst z1
        dsimp only
        have gr := (hF _ _ _ _ _ _ _ _ g0 q).1
        have hl2 := gr.len
        rw [if_neg (by decide)]
        refine k_em (x := (9, 0)) hA lc2 (by omega) ?_
        intro g3 lc3
        rw [qW_some]
        exact ⟨rfl, lc3⟩
  · rw [if_neg c1, if_neg (by decide), if_neg c1]
    unfold f_X6_readFact_b17
    rw [qbd_e, if_pos rfl, show (91 : Int32) = nn 91 from rfl, k_isSign lc.1 lc.2.1 (by omega) (by omega) (by omega) (by omega), qbn_s]
    by_cases c2 : sgI B n (sk B n p) 91 = true
    · have hl := sgI_lt c2
      rw [if_pos c2, c2, if_neg (by decide)]
      unfold f_X6_readFact_b68
      by_cases c10 : 10 ≤ d
      · rw [if_pos c10, if_neg (fun q => by rw [show (10 : Int32) = nn 10 from rfl, nn_lt (by omega) (by omega)] at q; omega), show (2 : Int32) = nn 2 from rfl, k_fail lc.2.2.1 e4, qbn_s, qpr_t (by decide), qW_some]
        exact ⟨rfl, wI_at⟩
      · rw [if_neg c10, if_pos (by exact (nn_lt (b := 10) (by omega) (by omega)).mpr (by omega)), qW_bv]
        refine qW_mono (LC_scan hA lc (tkE_s1 c2 (by omega) (by omega) (by omega)) hp) ?_
        intro g1 lc1
        rw [if_pos rfl, qW_bn, nn_add1]
        have g0 := g.up (p2 := sk B n p + 1) (by omega) (by omega)
        refine qW_mono (h1 (by omega) _ _ _ _ _ _ g0 lc1) ?_
        rintro ⟨x, g2⟩ hz
        cases q : F true (d + 1) (sk B n p + 1) E c with
        | inl e =>
          rw [q] at hz
          obtain ⟨z1, z2⟩ := hz
          have z1 : x = 0 := z1
          subst z1
          rw [if_pos rfl, qW_some]
          exact ⟨rfl, z2⟩
        | inr r =>
          rw [q] at hz
          obtain ⟨z1, lc2⟩ := hz
          have z1 : x = 1 := z1
          subst z1
          dsimp only
          have lc2 : LC a B n r.1 r.2.1 r.2.2 g2 := lc2
          have gr := (hF _ _ _ _ _ _ _ _ g0 q).1
          rw [if_neg (by decide), show (93 : Int32) = nn 93 from rfl, k_isSign lc2.1 lc2.2.1 (by omega) (by omega) (by omega) (by omega), qbn_s]
          show qW _ (LPc a B n (if sgI B n (sk B n r.1) 93 then .inr (sk B n r.1 + 1, r.2.1, r.2.2) else .inl (ER (sk B n r.1) 0)))
          by_cases c3 : sgI B n (sk B n r.1) 93 = true
          · rw [if_pos c3, c3, if_neg (by decide), qW_bv]
            refine qW_mono (LC_scan hA lc2 (tkE_s1 c3 (by omega) (by omega) (by omega)) gr.2.2.2.2.2.1) ?_
            intro g3 lc3
            rw [qW_some]
            exact ⟨rfl, lc3⟩
          · have c3' : sgI B n (sk B n r.1) 93 = false := by simpa using c3
            rw [if_neg c3, c3', if_pos (by decide), show (0 : Int32) = nn 0 from rfl, k_fail lc2.2.2.1 lc2.2.1.1, qbn_s, qpr_t (by decide), qW_some]
            exact ⟨rfl, wI_at⟩
    · have c2' : sgI B n (sk B n p) 91 = false := by simpa using c2
      rw [if_neg c2, c2', if_pos (by decide)]
      exact k_cmp4 hA (g.up hsk hskn) (LC_sk lc)
theorem k_testLoop {a : Nat} {B : Nat → Nat} {n d m : Nat} {T : List Bool} {F : Bool → Nat → Nat → Cd → Nat → PS} {G : Bool → Int32 → qa_M → Option (Int32 × qa_M)} (hA : qLaw a) (hF : FOK n F) (h2 : FKC a B n F G false d) : ∀ (f p c i : Nat) (o : Bool) (E : Cd) (h : qa_M), n < p + f → i < p → GI n p E c (oU o T) m → LC a B n p E c h → qW (f_X6_readTest_b14_loop G (nn d) (bi o) (nn i) h) (LPc a B n (pTl B n F d f o p E c))
  | 0, p, c, i, o, E, h, hf, hi, g, lc => by have := g.2.2.2.2.2.1; omega
  | f + 1, p, c, i, o, E, h, hf, hi, g, lc => by
    have hp := g.2.2.2.2.2.1
    have h400 := g.2.2.2.2.2.2
    have hlen := g.len
    have hsk := sk_ge (B := B) (n := n) (p := p)
    have hskn := sk_le (B := B) hp
    unfold f_X6_readTest_b14_loop
    refine qW_lpin ?_
    show qW (f_X6_readTest_b14 G (nn d) (bi o) (nn i) h) _
    unfold f_X6_readTest_b14 pTl
    rw [if_neg (fun q => by rw [show (400 : Int32) = nn 400 from rfl, nn_le (by omega) (by omega)] at q; omega), k_among lc.1 lc.2.1 (by omega), qbn_s, qbd_e, show wls 4 = [17, 18] from rfl, am_2]
    by_cases c1 : wis B n (sk B n p) 17 = true
    · have hl := wis_le hskn c1
      rw [show (wrd 17).length = 3 from rfl] at hl
      rw [if_pos c1, if_neg (by decide), if_neg (by decide), if_pos c1]
      have g0 := g.up (p2 := sk B n p + 3) (by omega) (by omega)
      have go : qW (f_X6_readTest_b75 G (nn d) (nn i) 0 (bi o) h) (Sum.elim (fun s2 => qW (qlp (fun sz : Int32 × Int32 × Int32 × qa_M => f_X6_readTest_b14 G sz.1 sz.2.1 sz.2.2.1 sz.2.2.2) s2) (LPc a B n (pBd (F false d (sk B n p + 3) E c) (fun r => pTl B n F d f o r.1 (r.2.1 ++ [(10, 0)]) r.2.2)))) (LPc a B n (pBd (F false d (sk B n p + 3) E c) (fun r => pTl B n F d f o r.1 (r.2.1 ++ [(10, 0)]) r.2.2)))) := by
        unfold f_X6_readTest_b75
        rw [qbd_e, qW_bv]
        refine qW_mono (LC_scan hA lc (tkE_w (by omega) c1) hp) ?_
        intro g1 lc1
        rw [qW_bn]
        refine qW_mono (h2 _ _ _ _ _ _ g0 lc1) ?_
        rintro ⟨x, g2⟩ hz
        cases q : F false d (sk B n p + 3) E c with
        | inl e =>
          rw [q] at hz
          obtain ⟨z1, z2⟩ := hz
          have z1 : x = 0 := z1
          subst z1
          rw [if_pos rfl, qup_s, qW_some]
          exact ⟨rfl, z2⟩
        | inr r =>
          rw [q] at hz
          obtain ⟨z1, lc2⟩ := hz
          have z1 : x = 1 := z1
          subst z1
          dsimp only
          obtain ⟨gr, hlt⟩ := hF _ _ _ _ _ _ _ _ g0 q
          have hl2 := gr.len
          rw [if_neg (by decide), if_pos rfl]
          refine k_em (x := (10, 0)) hA lc2 (by omega) ?_
          intro g3 lc3
          unfold f_X6_readTest_b107
          rw [qbd_e, nn_add1, qW_some]
          refine k_testLoop (T := T) (m := m) hA hF h2 f r.1 r.2.2 (i + 1) o (r.2.1 ++ [(10, 0)]) g3 (by omega) (by omega) ?_ lc3
          exact GI.op gr (show tst (nn 10) (true :: oU o T) = some (oU o T) by cases o <;> rfl) (by omega) (by omega) (by omega) (by omega)
      unfold f_X6_readTest_b60 f_X6_readTest_b70
      cases o with
      | false =>
        rw [if_pos (by rfl), if_neg (by decide)]
        exact go
      | true =>
        rw [if_neg (by decide)]
        exact go
    · rw [if_neg c1, if_neg c1]
      by_cases c2 : wis B n (sk B n p) 18 = true
      · have hl := wis_le hskn c2
        rw [show (wrd 18).length = 2 from rfl] at hl
        rw [if_pos c2, if_neg (by decide), if_pos rfl, if_pos c2]
        have g0 := (GI.orL g).up (p2 := sk B n p + 2) (by omega) (by omega)
        have go : ∀ h2', LC a B n p (E ++ orL o) c h2' → qW (f_X6_readTest_b75 G (nn d) (nn i) 1 1 h2') (Sum.elim (fun s2 => qW (qlp (fun sz : Int32 × Int32 × Int32 × qa_M => f_X6_readTest_b14 G sz.1 sz.2.1 sz.2.2.1 sz.2.2.2) s2) (LPc a B n (pBd (F false d (sk B n p + 2) (E ++ orL o) c) (fun r => pTl B n F d f true r.1 r.2.1 r.2.2)))) (LPc a B n (pBd (F false d (sk B n p + 2) (E ++ orL o) c) (fun r => pTl B n F d f true r.1 r.2.1 r.2.2)))) := by
          intro h2' lc0
          unfold f_X6_readTest_b75
          rw [qbd_e, qW_bv]
          refine qW_mono (LC_scan hA lc0 (tkE_w (by omega) c2) hp) ?_
          intro g1 lc1
          rw [qW_bn]
          refine qW_mono (h2 _ _ _ _ _ _ g0 lc1) ?_
          rintro ⟨x, g2⟩ hz
          cases q : F false d (sk B n p + 2) (E ++ orL o) c with
          | inl e =>
            rw [q] at hz
            obtain ⟨z1, z2⟩ := hz
            have z1 : x = 0 := z1
            subst z1
            rw [if_pos rfl, qup_s, qW_some]
            exact ⟨rfl, z2⟩
          | inr r =>
            rw [q] at hz
            obtain ⟨z1, lc2⟩ := hz
            have z1 : x = 1 := z1
            subst z1
            dsimp only
            obtain ⟨gr, hlt⟩ := hF _ _ _ _ _ _ _ _ g0 q
            rw [if_neg (by decide), if_neg (by decide)]
            unfold f_X6_readTest_b107
            rw [qbd_e, nn_add1, qW_some]
            exact k_testLoop (T := T) (m := m) hA hF h2 f r.1 r.2.2 (i + 1) true r.2.1 g2 (by omega) (by omega) gr lc2
        unfold f_X6_readTest_b60 f_X6_readTest_b70
        cases o with
        | false =>
          rw [if_pos (by rfl), if_pos (by rfl), if_pos rfl]
          refine go h ?_
          show LC a B n p (E ++ []) c h
          rw [List.append_nil]
          exact lc
        | true =>
          rw [if_neg (by decide)]
          refine k_em (x := (11, 0)) hA lc (by omega) ?_
          intro g2 lc2
          rw [if_neg (by decide)]
          exact go g2 lc2
      · rw [if_neg c2, if_pos rfl, if_neg c2, qW_up]
        unfold f_X6_readTest_b38 f_X6_readTest_b113
        cases o with
        | false =>
          rw [if_pos (by rfl), qW_some]
          refine ⟨rfl, ?_⟩
          show LC a B n (sk B n p) (E ++ []) c h
          rw [List.append_nil]
          exact LC_sk lc
        | true =>
          rw [if_neg (by decide)]
          refine k_em (x := (11, 0)) hA lc (by omega) ?_
          intro g2 lc2
          rw [qW_some]
          exact ⟨rfl, LC_sk lc2⟩
theorem k_rec {a : Nat} {B : Nat → Nat} {n : Nat} (hA : qLaw a) : ∀ (f : Nat) (b : Bool) (d : Nat), d ≤ 10 → (if b then 2 else 1) + 2 * (10 - d) ≤ f → FKC a B n (pRec B n f) (m_X6_rec f) b d
  | 0, b, d, hd, hf => by cases b <;> simp at hf
  | f + 1, true, d, hd, hf => by
    have hf : 2 + 2 * (10 - d) ≤ f + 1 := hf
    intro p E c U m h g lc
    have ih := k_rec (B := B) (n := n) hA f false d hd (by show 1 + 2 * (10 - d) ≤ f; omega)
    show qW (m_X6_readTest_F (m_X6_rec f) (nn d) h) (LPc a B n (pTsF B n (pRec B n f) d p E c))
    unfold m_X6_readTest_F pTsF
    rw [qbd_e, qW_bn]
    refine qW_mono (ih _ _ _ _ _ _ g lc) ?_
    rintro ⟨x, g2⟩ hz
    cases q : pRec B n f false d p E c with
    | inl e =>
      rw [q] at hz
      obtain ⟨z1, z2⟩ := hz
      have z1 : x = 0 := z1
      subst z1
      rw [if_pos rfl, qW_some]
      exact ⟨rfl, z2⟩
    | inr r =>
      rw [q] at hz
      obtain ⟨z1, lc2⟩ := hz
      have z1 : x = 1 := z1
      subst z1
      dsimp only
      obtain ⟨gr, hlt⟩ := pRec_ok f _ _ _ _ _ _ _ _ g q
      have h400 := g.2.2.2.2.2.2
      rw [if_neg (by decide), qbd_e]
      exact k_testLoop (T := U) (m := m) hA (pRec_ok f) ih 400 r.1 r.2.2 0 false r.2.1 g2 (by omega) (by omega) gr lc2
  | f + 1, false, d, hd, hf => by
    have hf : 1 + 2 * (10 - d) ≤ f + 1 := hf
    intro p E c U m h g lc
    show qW (m_X6_readFact_F (m_X6_rec f) (nn d) h) (LPc a B n (pFtF B n (pRec B n f) d p E c))
    exact k_fact0 hA hd (pRec_ok f) (fun q => k_rec hA f true (d + 1) (by omega) (by show 2 + 2 * (10 - (d + 1)) ≤ f; omega)) (fun q => k_rec hA f false (d + 1) (by omega) (by show 1 + 2 * (10 - (d + 1)) ≤ f; omega)) g lc
/-- the class reads a test -/
theorem k_readTest {a : Nat} {B : Nat → Nat} {n p c m : Nat} {E : Cd} {U : List Bool} {h : qa_M} (hA : qLaw a) (g : GI n p E c U m) (lc : LC a B n p E c h) : qW (m_X6_readTest 0 h) (LPc a B n (pRec B n 31 true 0 p E c)) :=
  k_rec hA 31 true 0 (by omega) (by show 2 + 2 * (10 - 0) ≤ 31; omega) _ _ _ _ _ _ g lc
