/-! A LAW IS READ: the class's sums and comparisons -/
def FER (n : Nat) (F : Bool → Nat → Nat → Cd → Nat → PS) : Prop := ∀ b d p E c U m k, GI n p E c U m → F b d p E c = .inl k → erB n k
theorem pTl_er {B : Nat → Nat} {n m d : Nat} {T : List Bool} {F : Bool → Nat → Nat → Cd → Nat → PS} (hF : FOK n F) (hE : FER n F) : ∀ {f p c k : Nat} {o : Bool} {E : Cd}, GI n p E c (oU o T) m → pTl B n F d f o p E c = .inl k → erB n k
  | 0, p, c, k, o, E, g, h => by rw [← Sum.inl.inj h]; exact er_1
  | f + 1, p, c, k, o, E, g, h => by
    have hp := g.2.2.2.2.2.1
    have hsk := sk_ge (B := B) (n := n) (p := p)
    have hskn := sk_le (B := B) hp
    unfold pTl at h
    by_cases c1 : wis B n (sk B n p) 17 = true
    · have hl := wis_le hskn c1
      rw [show (wrd 17).length = 3 from rfl] at hl
      rw [if_pos c1] at h
      have g0 := g.up (p2 := sk B n p + 3) (by omega) (by omega)
      rcases pBd_l h with h | ⟨a, h1, h⟩
      · exact hE _ _ _ _ _ _ _ _ g0 h
      · have g1 := hF _ _ _ _ _ _ _ _ g0 h1
        exact pTl_er hF hE (GI.op (k := 10) g1.1 (show tst (nn 10) (true :: oU o T) = some (oU o T) by cases o <;> rfl) (by omega) (by omega) (by omega) (by omega)) h
    · rw [if_neg c1] at h
      by_cases c2 : wis B n (sk B n p) 18 = true
      · have hl := wis_le hskn c2
        rw [show (wrd 18).length = 2 from rfl] at hl
        rw [if_pos c2] at h
        have g0 := (GI.orL g).up (p2 := sk B n p + 2) (by omega) (by omega)
        rcases pBd_l h with h | ⟨a, h1, h⟩
        · exact hE _ _ _ _ _ _ _ _ g0 h
        · have g1 := hF _ _ _ _ _ _ _ _ g0 h1
          exact pTl_er (o := true) (T := T) hF hE g1.1 h
      · rw [if_neg c2] at h; cases h
theorem pRec_er {B : Nat → Nat} {n : Nat} : ∀ f, FER n (pRec B n f)
  | 0 => fun b d p E c U m k g h => by
    have : (1 : Nat) = k := by cases b <;> exact Sum.inl.inj h
    rw [← this]; exact er_1
  | f + 1 => fun b d p E c U m k g h => by
    have hp := g.2.2.2.2.2.1
    have hsk := sk_ge (B := B) (n := n) (p := p)
    have hskn := sk_le (B := B) hp
    cases b with
    | true =>
      have h : pTsF B n (pRec B n f) d p E c = .inl k := h
      rcases pBd_l h with h | ⟨a, h1, h⟩
      · exact pRec_er f _ _ _ _ _ _ _ _ g h
      · have g1 := pRec_ok f _ _ _ _ _ _ _ _ g h1
        exact pTl_er (o := false) (T := U) (pRec_ok f) (pRec_er f) g1.1 h
    | false =>
      have h : pFtF B n (pRec B n f) d p E c = .inl k := h
      unfold pFtF at h
      by_cases c1 : wis B n (sk B n p) 2 = true
      · have hl := wis_le hskn c1
        rw [show (wrd 2).length = 3 from rfl] at hl
        rw [if_pos c1] at h
        by_cases c10 : 10 ≤ d
        · rw [if_pos c10] at h; rw [← Sum.inl.inj h]; exact ER_b hskn (by omega)
        · rw [if_neg c10] at h
          rcases pBd_l h with h | ⟨a, h1, h⟩
          · exact pRec_er f _ _ _ _ _ _ _ _ (g.up (p2 := sk B n p + 3) (by omega) (by omega)) h
          · cases h
      · rw [if_neg c1] at h
        by_cases c2 : sgI B n (sk B n p) 91 = true
        · have hl := sgI_lt c2
          rw [if_pos c2] at h
          by_cases c10 : 10 ≤ d
          · rw [if_pos c10] at h; rw [← Sum.inl.inj h]; exact ER_b hskn (by omega)
          · rw [if_neg c10] at h
            have g0 := g.up (p2 := sk B n p + 1) (by omega) (by omega)
            rcases pBd_l h with h | ⟨a, h1, h⟩
            · exact pRec_er f _ _ _ _ _ _ _ _ g0 h
            · have g1 := pRec_ok f _ _ _ _ _ _ _ _ g0 h1
              by_cases c3 : sgI B n (sk B n a.1) 93 = true
              · rw [if_pos c3] at h; cases h
              · rw [if_neg c3] at h; rw [← Sum.inl.inj h]; exact ER_b (sk_le g1.1.2.2.2.2.2.1) (by omega)
        · rw [if_neg c2] at h
          exact pCmp_er hskn h
/-! the class's code -/
def cC (x : Nat × Nat) : Int32 := match x.1 with
  | 0 => nn x.2
  | 1 => -1 - nn x.2
  | 2 => -11
  | 3 => -12
  | 4 => -15
  | 5 => -16
  | 6 => -17
  | 7 => -18
  | 8 => -19
  | 10 => -20
  | 11 => -21
  | 13 => -13
  | 14 => -14
  | _ => -22
def CM (a : Nat) (E : Cd) (h : qa_M) : Prop := h.1 a 8 = nn E.length ∧ ∀ i, i < E.length → h.1 (a + 6) i = cC (E.getD i (0, 0))
def LC (a : Nat) (B : Nat → Nat) (n p : Nat) (E : Cd) (c : Nat) (h : qa_M) : Prop := TpC B n h ∧ TkC B n (sk B n p) h ∧ h.1 1 7 = 0 ∧ CM a E h ∧ h.1 21 2 = nn c ∧ h.2.2.1 21 1 = a + 1
def LPc (a : Nat) (B : Nat → Nat) (n : Nat) (r : PS) (z : Int32 × qa_M) : Prop := match r with
  | .inl f => CE f z
  | .inr r => z.1 = 1 ∧ LC a B n r.1 r.2.1 r.2.2 z.2
theorem qLaw_g {a : Nat} (h : qLaw a) : 83 ≤ a := by unfold qLaw at h; omega
theorem CM_fr {W : List (Nat × Nat)} {a : Nat} {E : Cd} {h g : qa_M} (r : CM a E h) (f : qfr W h g) (w1 : inW W a 8 = false) (w2 : ∀ j, inW W (a + 6) j = false) : CM a E g := ⟨(f.1 a 8 w1).1.trans r.1, fun i hi => (f.1 (a + 6) i (w2 i)).1.trans (r.2 i hi)⟩
/-- emit -/
theorem k_emit {a : Nat} {B : Nat → Nat} {n p : Nat} {E : Cd} {c : Nat} {h : qa_M} {x : Nat × Nat} (hA : qLaw a) (lc : LC a B n p E c h) (hl : E.length ≤ 299) : qW (m_X5_emit a (cC x) h) (LC a B n p (E ++ [x]) c) := by
  have h83 := qLaw_g hA
  obtain ⟨t, tk, f0, ⟨m1, m2⟩, h2, h21⟩ := lc
  unfold m_X5_emit
  rw [m1, if_neg (fun q => by rw [show (400 : Int32) = nn 400 from rfl, nn_le (by omega) (by omega)] at q; omega), qck_nn (by omega) (by omega), qbd_e, nn_cl (by omega), wI_ne (by omega), m1, nn_add1, qbd_e, qW_some]
  have f1 : qfr [(a, 9), (a + 6, 0)] h (qw_I (qw_I h (a + 6) E.length (cC x)) a 8 (nn (E.length + 1))) := qfr_Ik rfl (by simp) (qfr_I0 rfl (by simp) qfr_rf)
  have w : ∀ b j, b ≤ 21 → inW [(a, 9), (a + 6, 0)] b j = false := fun b j hb => by unfold inW; simp; omega
  refine ⟨TpC_fr t f1 (w _ _ (by omega)) (fun j => w _ _ (by omega)), TkC_fr tk f1 (w _ _ (by omega)) (w _ _ (by omega)) (w _ _ (by omega)) (w _ _ (by omega)), by rw [(f1.1 1 7 (w _ _ (by omega))).1]; exact f0, ⟨?_, fun i hi => ?_⟩, by rw [(f1.1 21 2 (w _ _ (by omega))).1]; exact h2, by rw [(f1.1 21 1 (w _ _ (by omega))).2.2]; exact h21⟩
  · rw [wI_at, List.length_append]
    rfl
  · rw [List.length_append] at hi
    have hi : i < E.length + 1 := hi
    rw [wI_ne (by omega)]
    by_cases ci : i = E.length
    · subst ci
      rw [wI_at, List.getD_eq_getElem?_getD, List.getElem?_append_right (Nat.le_refl _), Nat.sub_self]
      rfl
    · rw [wI_ne (by omega), m2 i (by omega), List.getD_eq_getElem?_getD, List.getD_eq_getElem?_getD, List.getElem?_append_left (by omega)]
theorem k_em {a : Nat} {B : Nat → Nat} {n p : Nat} {E : Cd} {c : Nat} {h : qa_M} {x : Nat × Nat} {α : Type} {K : qa_M → Option α} {P : α → Prop} (hA : qLaw a) (lc : LC a B n p E c h) (hl : E.length ≤ 299)
    (k : ∀ g, LC a B n p (E ++ [x]) c g → qW (K g) P) : qW (qnn (h.2.2.1 21 1) (fun b => qpr (b = 83 ∨ b = 92 ∨ b = 101 ∨ b = 110) (qbv (m_X5_emit b (cC x) h) K))) P := by
  rw [lc.2.2.2.2.2, qnn_s, qpr_t (by exact hA), qW_bv]
  exact qW_mono (k_emit hA lc hl) k
theorem LC_scan {a : Nat} {B : Nat → Nat} {n p e : Nat} {E : Cd} {c : Nat} {h : qa_M} (hA : qLaw a) (lc : LC a B n p E c h) (he : tkE B n (sk B n p) = e) (hp : p ≤ n) : qW (m_X9_scan h) (LC a B n e E c) := by
  have h83 := qLaw_g hA
  obtain ⟨t, tk, f0, m, h2, h21⟩ := lc
  have hen : e ≤ n := by rw [← he]; exact tkE_le (sk_le hp)
  refine qW_fr (k_scan t (p := e) (by rw [tk.2.2.2.1, he]) hen) (fun z e => fr_X9_scan _ e) ?_
  intro g tg f1
  have f1 : qfr wSc h g := f1
  have w : ∀ b j, 2 ≤ b → inW wSc b j = false := fun b j hb => by unfold wSc inW; simp; omega
  exact ⟨TpC_fr t f1 rfl (fun j => rfl), tg, by rw [(f1.1 1 7 rfl).1]; exact f0, CM_fr m f1 (w _ _ (by omega)) (fun j => w _ _ (by omega)), by rw [(f1.1 21 2 rfl).1]; exact h2, by rw [(f1.1 21 1 rfl).2.2]; exact h21⟩
theorem k_part {a : Nat} {B : Nat → Nat} {n p : Nat} {E : Cd} {c : Nat} {h : qa_M} {α : Type} {K : Int32 → qa_M → Option α} {P : α → Prop} (hA : qLaw a) (lc : LC a B n p E c h) (hc : c ≤ 60)
    (h0 : c = 60 → ∀ g, g.1 1 7 = nn (ER (sk B n p) 3) → qW (K 0 g) P) (h1 : c ≠ 60 → ∀ g, LC a B n p E (c + 1) g → qW (K 1 g) P) : qW (qbn (m_X6_isRoomForPart h) K) P := by
  have h83 := qLaw_g hA
  obtain ⟨t, tk, f0, m, h2, h21⟩ := lc
  unfold m_X6_isRoomForPart
  rw [h2]
  by_cases c6 : c = 60
  · rw [if_neg (fun q => by rw [show (60 : Int32) = nn 60 from rfl, nn_lt (by omega) (by omega)] at q; omega), tk.1, show (3 : Int32) = nn 3 from rfl, k_failAt f0, qbn_s, qpr_t (by decide), qbn_s]
    exact h0 c6 _ wI_at
  · rw [if_pos (by exact (nn_lt (b := 60) (by omega) (by omega)).mpr (by omega)), qbd_e, qbn_s, nn_add1]
    have f1 : qfr [(21, 3)] h (qw_I h 21 2 (nn (c + 1))) := qfr_Ik rfl (by simp) qfr_rf
    have w : ∀ b j, b ≠ 21 → inW [(21, 3)] b j = false := fun b j hb => by unfold inW; simp; omega
    exact h1 c6 _ ⟨TpC_fr t f1 rfl (fun j => rfl), TkC_fr tk f1 rfl rfl rfl rfl, by rw [(f1.1 1 7 rfl).1]; exact f0, CM_fr m f1 (w _ _ (by omega)) (fun j => w _ _ (by omega)), wI_at, h21⟩
theorem tkE_D {B : Nat → Nat} {n q : Nat} (h : isD B n q = true) : tkE B n q = nd B n q ∧ tkK B n q = 1 ∧ tkV B n q = if nd B n q - q ≤ 5 then nn (dv B q (nd B n q - q)) else -1 := by
  have hn : ¬ n ≤ q := fun x => by rw [isD_hi q x] at h; cases h
  unfold tkE tkK tkV
  rw [if_neg hn, if_neg hn, if_neg hn, if_pos h, if_pos h, if_pos h]
  exact ⟨rfl, rfl, rfl⟩
theorem tkE_L {B : Nat → Nat} {n q : Nat} (h : isL B n q = true) : tkE B n q = wd B n q ∧ tkK B n q = 2 := by
  have hn : ¬ n ≤ q := fun x => by rw [isL_hi q x] at h; cases h
  have hd : ¬ isD B n q = true := fun x => by rw [isD_L x] at h; cases h
  unfold tkE tkK
  rw [if_neg hn, if_neg hn, if_neg hd, if_neg hd, if_pos h, if_pos h]
  exact ⟨rfl, rfl⟩
theorem tkK_n1 {B : Nat → Nat} {n q : Nat} (h : isD B n q = false) : tkK B n q ≠ 1 := by
  unfold tkK
  rw [h]
  by_cases c1 : n ≤ q
  · rw [if_pos c1]; decide
  · rw [if_neg c1, if_neg (by decide)]
    by_cases c2 : isL B n q = true
    · rw [if_pos c2]; decide
    · rw [if_neg c2]; decide
theorem wis_L {B : Nat → Nat} {n q k : Nat} (hk : k < 19) (h : wis B n q k = true) : isL B n q = true ∧ wd B n q = q + (wrd k).length := by
  refine ⟨?_, (mtc_len h).symm⟩
  cases x : isL B n q with
  | true => rfl
  | false => rw [wis_no hk x] at h; cases h
theorem k_readValue {a : Nat} {B : Nat → Nat} {n p : Nat} {E : Cd} {c m : Nat} {U : List Bool} {h : qa_M} (hA : qLaw a) (g : GI n p E c U m) (lc : LC a B n p E c h) : qW (m_X6_readValue h) (LPc a B n (pVal B n p E c)) := by
  have hp := g.2.2.2.2.2.1
  have hc := g.2.2.2.2.1
  have hlen := g.len
  have hskn := sk_le (B := B) hp
  obtain ⟨t, tk, f0, cm, h2, h21⟩ := lc
  have lc : LC a B n p E c h := ⟨t, tk, f0, cm, h2, h21⟩
  have e4 := tk.1
  have h400 := t.2.1
  unfold m_X6_readValue pVal
  rw [k_among t tk (by omega), qbn_s, qbd_e, tk.2.1, amR_N, show wls 3 = [12, 13, 14, 15, 7, 8, 16] from rfl]
  by_cases cd : isD B n (sk B n p) = true
  · obtain ⟨d1, d2, d3⟩ := tkE_D cd
    have an : amN B n (sk B n p) [12, 13, 14, 15, 7, 8, 16] 0 = none := by
      have := amR_no (isD_L cd) [12, 13, 14, 15, 7, 8, 16] 0 (by decide)
      rw [amR_N] at this
      cases q : amN B n (sk B n p) [12, 13, 14, 15, 7, 8, 16] 0 with
      | none => rfl
      | some k => rw [q] at this; have hk := (amN_lt q).2.1; exact absurd this (nn_nm1 (by simp at hk; omega))
    rw [d2, if_pos (by rfl), if_pos cd, an]
    unfold f_X6_readValue_b35
    show qW (if (-1 : Int32) = -1 then _ else _) _
    rw [if_pos rfl, tk.2.2.1, d3]
    by_cases c5 : nd B n (sk B n p) - sk B n p ≤ 5
    · have hv := dv_5 (B := B) (n := n) (p := sk B n p) (k := nd B n (sk B n p) - sk B n p) (by have := nd_ge (B := B) (n := n) (p := sk B n p); omega) c5
      rw [if_pos c5, if_pos c5, if_pos (nn_nn (by omega))]
      unfold f_X6_readValue_b59
      refine k_part hA lc hc ?_ ?_
      · intro c6 g2 e7
        rw [if_pos rfl, qW_some, if_pos c6]
        exact ⟨rfl, e7⟩
      · intro c6 g2 lc2
        rw [if_neg (by decide), if_neg c6, lc2.2.2.2.2.2, qnn_s, qpr_t (by exact hA)]
        show qW (if (-1 : Int32) = -1 then _ else _) _
        unfold f_X6_readValue_b90
        rw [if_pos rfl, qpr_t (by exact hA), lc2.2.1.2.2.1, d3, if_pos c5, qW_bv]
        refine qW_mono (k_emit (x := (0, dv B (sk B n p) (nd B n (sk B n p) - sk B n p))) hA lc2 (by omega)) ?_
        intro g3 lc3
        rw [qW_bv]
        refine qW_mono (LC_scan hA lc3 d1 hp) ?_
        intro g4 lc4
        rw [qW_some]
        exact ⟨rfl, lc4⟩
    · rw [if_neg c5, if_neg c5, if_neg (by decide), show (1 : Int32) = nn 1 from rfl, k_fail f0 e4, qbn_s, qpr_t (by decide), qW_some]
      exact ⟨rfl, wI_at⟩
  · have cd : isD B n (sk B n p) = false := by simpa using cd
    have hk3 := tkK_le (B := B) (n := n) (p := sk B n p)
    rw [if_neg (fun q => by rw [show (1 : Int32) = nn 1 from rfl, nn_eq (by omega) (by omega)] at q; exact tkK_n1 cd q), cd, if_neg (show ¬ (false = true) by decide)]
    cases ha : amN B n (sk B n p) [12, 13, 14, 15, 7, 8, 16] 0 with
    | none =>
      show qW (if (-1 : Int32) = -1 then _ else _) _
      rw [if_pos rfl, show (0 : Int32) = nn 0 from rfl, k_fail f0 e4, qbn_s, qpr_t (by decide), qW_some]
      exact ⟨rfl, wI_at⟩
    | some k =>
      obtain ⟨k1, k2, w, k3, k4⟩ := amN_lt ha
      have k2 : k < 7 := by simpa using k2
      have hw : w < 19 := by
        rw [Nat.sub_zero] at k3
        have : k = 0 ∨ k = 1 ∨ k = 2 ∨ k = 3 ∨ k = 4 ∨ k = 5 ∨ k = 6 := by omega
        rcases this with rfl | rfl | rfl | rfl | rfl | rfl | rfl <;> (have := Option.some.inj k3; omega)
      obtain ⟨d1, d2⟩ := tkE_L (wis_L hw k4).1
      show qW (if nn k = -1 then _ else f_X6_readValue_b35 (nn k) h) (LPc a B n (if c = 60 then .inl (ER (sk B n p) 3) else .inr (wd B n (sk B n p), E ++ [(1, k)], c + 1)))
      rw [if_neg (nn_nm1 (by omega))]
      unfold f_X6_readValue_b35
      rw [if_neg (nn_nm1 (by omega))]
      unfold f_X6_readValue_b59
      refine k_part hA lc hc ?_ ?_
      · intro c6 g2 e7
        rw [if_pos rfl, qW_some, if_pos c6]
        exact ⟨rfl, e7⟩
      · intro c6 g2 lc2
        rw [if_neg (by decide), if_neg c6, lc2.2.2.2.2.2, qnn_s, qpr_t (by exact hA), if_neg (nn_nm1 (by omega))]
        unfold f_X6_readValue_b90
        rw [qpr_t (by exact hA), qW_bv]
        refine qW_mono (k_emit (x := (1, k)) hA lc2 (by omega)) ?_
        intro g3 lc3
        rw [qW_bv]
        refine qW_mono (LC_scan hA lc3 d1 hp) ?_
        intro g4 lc4
        rw [qW_some]
        exact ⟨rfl, lc4⟩
/-! signs -/
def scV (v : Int32) : Int32 := if v = 42 then -13 else if v = 43 then -11 else if v = 45 then -12 else if v = 47 then -14 else if v = 60 then -15 else if v = 61 then -17 else if v = 62 then -19 else if v = 316 then -16 else if v = 318 then -18 else 0
def scI (B : Nat → Nat) (n q : Nat) : Int32 := if tkK B n q = 3 then scV (tkV B n q) else 0
theorem k_signCode {B : Nat → Nat} {n q : Nat} {h : qa_M} (tk : TkC B n q h) : m_X6_signCode h = some (scI B n q, h) := by
  obtain ⟨a4, a3, a5, a2, hp, hs⟩ := tk
  have hk3 := tkK_le (B := B) (n := n) (p := q)
  unfold m_X6_signCode scI scV
  rw [a3, a5]
  by_cases c : tkK B n q = 3
  · rw [if_pos (by rw [c]; rfl), if_pos c]
    repeat' split
    all_goals rfl
  · rw [if_neg (fun x => by rw [show (3 : Int32) = nn 3 from rfl, nn_eq (by omega) (by omega)] at x; exact c x), if_neg c]
/-- at a sign -/
theorem tk_sg {B : Nat → Nat} {n q c : Nat} (h : sgI B n q c = true) (h1 : ¬ (48 ≤ c ∧ c ≤ 57)) (h2 : ¬ (97 ≤ c ∧ c ≤ 122)) : tkK B n q = 3 ∧ tkV B n q = (if two B n q then nn (c + 256) else nn c) ∧ tkE B n q = (if two B n q then q + 2 else q + 1) := by
  unfold sgI at h
  rw [Bool.and_eq_true, decide_eq_true_eq, decide_eq_true_eq] at h
  obtain ⟨hn, hb⟩ := h
  have hd : ¬ isD B n q = true := fun x => by
    unfold isD at x
    rw [Bool.and_eq_true, decide_eq_true_eq, decide_eq_true_eq, hb] at x
    exact h1 x.2
  have hl : ¬ isL B n q = true := fun x => by
    unfold isL at x
    rw [Bool.and_eq_true, decide_eq_true_eq, decide_eq_true_eq, hb] at x
    exact h2 x.2
  refine ⟨?_, ?_, ?_⟩
  · unfold tkK
    rw [if_neg (by omega), if_neg hd, if_neg hl]
  · unfold tkV
    rw [if_neg (by omega), if_neg hd, if_neg hl, hb]
  · unfold tkE
    rw [if_neg (by omega), if_neg hd, if_neg hl]
theorem two_no {B : Nat → Nat} {n q : Nat} (h : B q ≠ 60 ∧ B q ≠ 62) : two B n q = false := by
  unfold two
  rw [decide_eq_false (by omega)]
  rfl
theorem sgI_b {B : Nat → Nat} {n q c : Nat} (h : sgI B n q c = true) : q < n ∧ B q = c := by
  unfold sgI at h
  rw [Bool.and_eq_true, decide_eq_true_eq, decide_eq_true_eq] at h
  exact h
theorem sgI_mk {B : Nat → Nat} {n q c : Nat} (h1 : q < n) (h2 : B q = c) : sgI B n q c = true := by
  unfold sgI
  rw [decide_eq_true h1, decide_eq_true h2]
  rfl
/-- one of + - * / -/
theorem sc_ar {B : Nat → Nat} {n q c : Nat} (h : sgI B n q c = true) (hc : c = 42 ∨ c = 43 ∨ c = 45 ∨ c = 47) : scI B n q = scV (nn c) ∧ tkE B n q = q + 1 := by
  obtain ⟨k1, k2, k3⟩ := tk_sg h (by omega) (by omega)
  obtain ⟨b1, b2⟩ := sgI_b h
  have tw : two B n q = false := two_no (by omega)
  rw [tw, if_neg (by decide)] at k2 k3
  unfold scI
  rw [if_pos k1, k2]
  exact ⟨rfl, k3⟩
theorem tkK_3 {B : Nat → Nat} {n q : Nat} (hB : q < n → B q < 256) (h : tkK B n q = 3) : q < n ∧ ¬ (48 ≤ B q ∧ B q ≤ 57) ∧ ¬ (97 ≤ B q ∧ B q ≤ 122) := by
  unfold tkK at h
  by_cases c1 : n ≤ q
  · rw [if_pos c1] at h; cases h
  · rw [if_neg c1] at h
    by_cases c2 : isD B n q = true
    · rw [if_pos c2] at h; cases h
    · rw [if_neg c2] at h
      by_cases c3 : isL B n q = true
      · rw [if_pos c3] at h; cases h
      · unfold isD at c2
        unfold isL at c3
        rw [decide_eq_true (show q < n by omega), Bool.true_and, decide_eq_true_eq] at c2 c3
        exact ⟨by omega, c2, c3⟩
/-- what the sign code says of the sign -/
theorem sc_inv {B : Nat → Nat} {n q : Nat} (hB : q < n → B q < 256) : (scI B n q = -13 → sgI B n q 42 = true) ∧ (scI B n q = -11 → sgI B n q 43 = true) ∧ (scI B n q = -12 → sgI B n q 45 = true) ∧ (scI B n q = -14 → sgI B n q 47 = true) ∧ (scI B n q = -15 ∨ scI B n q = -16 ∨ scI B n q = -17 ∨ scI B n q = -18 ∨ scI B n q = -19 ∨ scI B n q = 0 ∨ scI B n q = -13 ∨ scI B n q = -11 ∨ scI B n q = -12 ∨ scI B n q = -14) := by
  unfold scI
  by_cases c : tkK B n q = 3
  · obtain ⟨k1, k2, k3⟩ := tkK_3 hB c
    obtain ⟨-, v1, -⟩ := tk_sg (sgI_mk (c := B q) k1 rfl) k2 k3
    have hb := hB k1
    rw [if_pos c, v1]
    have hv : ∀ x, x < 256 → ((if two B n q = true then nn (B q + 256) else nn (B q)) = nn x → B q = x) := by
      intro x hx
      by_cases t : two B n q = true
      · rw [if_pos t, nn_eq (by omega) (by omega)]
        intro z; omega
      · rw [if_neg t, nn_eq (by omega) (by omega)]
        exact fun z => z
    obtain ⟨v, hvv⟩ : ∃ v, v = (if two B n q = true then nn (B q + 256) else nn (B q)) := ⟨_, rfl⟩
    rw [← hvv] at hv ⊢
    have a42 := hv 42 (by omega)
    have a43 := hv 43 (by omega)
    have a45 := hv 45 (by omega)
    have a47 := hv 47 (by omega)
    unfold scV
    by_cases c42 : v = 42
    · rw [if_pos c42]
      exact ⟨fun _ => sgI_mk k1 (a42 c42), fun z => absurd z (by decide), fun z => absurd z (by decide), fun z => absurd z (by decide), by decide⟩
    · rw [if_neg c42]
      by_cases c43 : v = 43
      · rw [if_pos c43]
        exact ⟨fun z => absurd z (by decide), fun _ => sgI_mk k1 (a43 c43), fun z => absurd z (by decide), fun z => absurd z (by decide), by decide⟩
      · rw [if_neg c43]
        by_cases c45 : v = 45
        · rw [if_pos c45]
          exact ⟨fun z => absurd z (by decide), fun z => absurd z (by decide), fun _ => sgI_mk k1 (a45 c45), fun z => absurd z (by decide), by decide⟩
        · rw [if_neg c45]
          by_cases c47 : v = 47
          · rw [if_pos c47]
            exact ⟨fun z => absurd z (by decide), fun z => absurd z (by decide), fun z => absurd z (by decide), fun _ => sgI_mk k1 (a47 c47), by decide⟩
          · rw [if_neg c47]
            repeat' split
            all_goals exact ⟨fun z => absurd z (by decide), fun z => absurd z (by decide), fun z => absurd z (by decide), fun z => absurd z (by decide), by decide⟩
  · rw [if_neg c]
    exact ⟨fun z => absurd z (by decide), fun z => absurd z (by decide), fun z => absurd z (by decide), fun z => absurd z (by decide), by decide⟩
