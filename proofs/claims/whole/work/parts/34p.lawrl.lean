/-! A LAW IS READ: the reference's whole way -/
theorem r_blanksN {B : Nat → Nat} {n : Nat} {h : qa_M} (t : TpR B n h) (e : h.1 119 21 = nn (n + 1)) : m_X12_blanks h = some h := by
  have h4 := t.2.1
  have hs := r_sign t e (by omega)
  have hn : sgn B n (n + 1) = -1 := if_neg (by omega)
  rw [hn] at hs
  unfold m_X12_blanks f_X12_blanks_b0_loop
  refine qlp_out ?_
  show f_X12_blanks_b0 h = _
  unfold f_X12_blanks_b0
  rw [hs, qbn_s, if_neg (by decide), qup_s]
theorem r_goesOnX {B : Nat → Nat} {n f : Nat} {h : qa_M} (r : LX B n f h) : qW (m_X12_goesOn h) (fun z => z.1 = 0 ∧ z.2.1 119 22 = nn f) := by
  obtain ⟨t, ⟨p, hp, e⟩, e2, er⟩ := r
  have h4 := t.2.1
  by_cases c : p ≤ n
  · exact r_goesOnF ⟨t, ⟨p, c, e⟩, e2⟩ er
  · have hpn : p = n + 1 := by omega
    subst hpn
    have hf : ¬ nn f = 0 := by
      obtain ⟨h1, h2⟩ := er
      rw [show (0 : Int32) = nn 0 from rfl, nn_eq (by omega) (by omega)]
      omega
    unfold m_X12_goesOn
    rw [r_blanksN t e, qbv_s, if_neg (by rw [e2]; exact hf), r_go40 t.1 e (by omega) (by omega), qW_some, decide_eq_false (by rw [e2]; exact hf)]
    exact ⟨rfl, by rw [wI_ne (by omega)]; exact e2⟩
def LZm (k m : Nat) (r : Nat ⊕ (List LCl × Cd)) (g : qa_M) : Prop := match r with
  | .inl f => g.1 119 22 = nn f
  | .inr r => g.1 119 22 = 0 ∧ RCl k r.1 g ∧ RM k r.2 g ∧ m = r.1.length
def wLz : List (Nat × Nat) := w_X12_lawClause
theorem r_lawLoop {k : Nat} {B : Nat → Nat} {n : Nat} {h0 : qa_M} {P : Int32 × qa_M → Prop} (hk : k < 4) : ∀ (fu p : Nat) (E : Cd) (c : Nat) (Cs : List LCl) (h : qa_M), Cs.length + fu = 13 → Cs.length ≤ 12 → LI n p E c Cs → LR1 k B n p E c h → RCl k Cs h → QZ k 0 h0 h → qfr wLz h0 h →
      (∀ m g, m ≤ 13 → qfr wLz h0 g → QZ k 0 h0 g → LZm k m (lwP B n fu p E c Cs) g → qW (f_X12_law_b46 (nn m) g) P) → qW (f_X12_law_b26_loop (nn Cs.length) 1 h) P
  | 0, p, E, c, Cs, h, h1, h2, _, _, _, _, _, _ => by omega
  | fu + 1, p, E, c, Cs, h, h1, h2, l, r, rc, qz, fr, hP => by
    have h400 := r.1.2.1
    unfold f_X12_law_b26_loop
    refine qW_lpin ?_
    show qW (f_X12_law_b26 (nn Cs.length) 1 h) _
    unfold f_X12_law_b26
    rw [if_neg (by decide), qW_bv]
    refine qW_fr (r_lawClause hk h2 l r rc) (fun z e => fr_X12_lawClause _ _ e) ?_
    rintro g ⟨hz, qz1⟩ f1
    have f1 : qfr wLz h g := f1
    have qz2 : QZ k 0 h0 g := QZ_tr qz (QZ_le qz1 (Nat.zero_le _))
    have fr2 : qfr wLz h0 g := qfr_tr fr f1
    rw [qbd_e, nn_add1, qW_bn]
    have fin : ∀ (g2 : qa_M), qfr [(119, 22), (119, 23)] g g2 → LZm k (Cs.length + 1) (lwP B n (fu + 1) p E c Cs) g2 → qW (qlp (fun sz : Int32 × Int32 × qa_M => f_X12_law_b26 sz.1 sz.2.1 sz.2.2) (nn (Cs.length + 1), 0, g2)) P := by
      intro g2 f2 hm
      refine qW_lpin ?_
      show qW (f_X12_law_b26 (nn (Cs.length + 1)) 0 g2) _
      unfold f_X12_law_b26
      rw [if_pos rfl, qW_up]
      exact hP (Cs.length + 1) g2 (by omega) (qfr_tr fr2 (qfr_sub (qsub_c (by simp [wLz, w_X12_lawClause]) (qsub_c (by simp [wLz, w_X12_lawClause]) qsub_nil)) f2)) (QZ_tr qz2 (QZ_f f2 (fun b j h1 h2 => by unfold inW; simp; omega))) hm
    cases q : lcP B n Cs.length p E c with
    | inl f =>
      rw [q] at hz
      have e0 : lwP B n (fu + 1) p E c Cs = .inl f := by simp only [lwP, pBd, q]
      rw [e0] at fin
      refine qW_fr (r_goesOnX hz) (fun z e => fr_X12_goesOn _ e) ?_
      rintro ⟨x, g2⟩ ⟨z1, z2⟩ f2
      have z1 : x = 0 := z1
      subst z1
      have f2 : qfr [(119, 22), (119, 23)] g g2 := f2
      rw [qbd_e, qW_some]
      exact fin g2 f2 z2
    | inr a =>
      rw [q] at hz
      obtain ⟨r2, rc2⟩ := hz
      obtain ⟨l2, hlt, hn12⟩ := lcP_ok l q
      obtain ⟨U2, gr⟩ := l2.1
      have he := gr.2.2.2.2.2.1
      have hse := sk_le (B := B) he
      have e0 : lwP B n (fu + 1) p E c Cs = if n ≤ sk B n a.2.1 then .inr (Cs ++ [a.1], a.2.2.1) else if B (sk B n a.2.1) = 59 then lwP B n fu (sk B n a.2.1 + 1) a.2.2.1 a.2.2.2 (Cs ++ [a.1]) else .inl (ER (sk B n a.2.1) 0) := by simp only [lwP, pBd, q]
      rw [e0] at fin hP
      refine qW_fr (r_goesOn r2.1 r2.2.1 he r2.2.2.1) (fun z e => fr_X12_goesOn _ e) ?_
      rintro ⟨x, g2⟩ hg2 f2
      have f2 : qfr [(119, 22), (119, 23)] g g2 := f2
      have qq : QZ k (Cs ++ [a.1]).length g g2 := QZ_f f2 (fun b j h1 h2 => by unfold inW; simp; omega)
      have rc3 : RCl k (Cs ++ [a.1]) g2 := RCl_keep rc2 qq
      have rm3 : RM k a.2.2.1 g2 := RM_fr r2.2.2.2.1 f2 rfl rfl (fun b j h1 h2 => by unfold inW; simp; omega)
      rw [qbd_e, qW_some]
      by_cases c1 : n ≤ sk B n a.2.1
      · rw [if_pos c1] at hg2 fin
        obtain ⟨z1, z2⟩ := hg2
        have z1 : x = 0 := z1
        subst z1
        exact fin g2 f2 ⟨z2, rc3, rm3, by rw [List.length_append]; rfl⟩
      · rw [if_neg c1] at hg2 fin hP
        by_cases c2 : B (sk B n a.2.1) = 59
        · rw [if_pos c2] at hg2 hP
          obtain ⟨z1, z2, z3⟩ := hg2
          have z1 : x = 1 := z1
          subst z1
          have l3 : LI n (sk B n a.2.1 + 1) a.2.2.1 a.2.2.2 (Cs ++ [a.1]) := ⟨⟨U2, gr.up (by have := sk_ge (B := B) (n := n) (p := a.2.1); omega) (by omega)⟩, l2.2⟩
          have r3 : LR1 k B n (sk B n a.2.1 + 1) a.2.2.1 a.2.2.2 g2 := LR1_am r2 f2 z3 z2
          have := r_lawLoop (h0 := h0) (P := P) hk fu (sk B n a.2.1 + 1) a.2.2.1 a.2.2.2 (Cs ++ [a.1]) g2 (by rw [List.length_append]; show Cs.length + 1 + fu = 13; omega) (by rw [List.length_append]; show Cs.length + 1 ≤ 12; omega) l3 r3 rc3 (QZ_tr qz2 (QZ_le qq (Nat.zero_le _))) (qfr_tr fr2 (qfr_sub (qsub_c (by simp [wLz, w_X12_lawClause]) (qsub_c (by simp [wLz, w_X12_lawClause]) qsub_nil)) f2)) hP
          rw [List.length_append] at this
          exact this
        · rw [if_neg c2] at hg2 fin
          obtain ⟨z1, z2⟩ := hg2
          have z1 : x = 0 := z1
          subst z1
          exact fin g2 f2 z2
theorem lwP_er {B : Nat → Nat} {n : Nat} : ∀ {fu p c f : Nat} {E : Cd} {Cs : List LCl}, Cs.length + fu = 13 → Cs.length ≤ 12 → LI n p E c Cs → lwP B n fu p E c Cs = .inl f → erB n f
  | 0, p, c, f, E, Cs, h1, h2, _, _ => by omega
  | fu + 1, p, c, f, E, Cs, h1, h2, l, h => by
    unfold lwP at h
    rcases pBd_l h with h | ⟨a, ha, h⟩
    · exact lcP_er l h
    · obtain ⟨l2, hlt, hn12⟩ := lcP_ok l ha
      obtain ⟨U2, gr⟩ := l2.1
      have he := gr.2.2.2.2.2.1
      have hse := sk_le (B := B) he
      by_cases c1 : n ≤ sk B n a.2.1
      · rw [if_pos c1] at h; cases h
      · rw [if_neg c1] at h
        by_cases c2 : B (sk B n a.2.1) = 59
        · rw [if_pos c2] at h
          exact lwP_er (by rw [List.length_append]; show Cs.length + 1 + fu = 13; omega) (by rw [List.length_append]; show Cs.length + 1 ≤ 12; omega) ⟨⟨U2, gr.up (by have := sk_ge (B := B) (n := n) (p := a.2.1); omega) (by omega)⟩, l2.2⟩ h
        · rw [if_neg c2] at h
          rw [← Sum.inl.inj h]
          exact ER_b hse (by omega)
theorem lwP_ok {B : Nat → Nat} {n : Nat} : ∀ {fu p c : Nat} {E : Cd} {Cs : List LCl} {r : List LCl × Cd}, Cs.length + fu = 13 → Cs.length ≤ 12 → LI n p E c Cs → lwP B n fu p E c Cs = .inr r → ∃ p2 c2, LI n p2 r.2 c2 r.1 ∧ r.1.length ≤ 12
  | 0, p, c, E, Cs, r, h1, h2, _, _ => by omega
  | fu + 1, p, c, E, Cs, r, h1, h2, l, h => by
    unfold lwP at h
    obtain ⟨a, ha, h⟩ := pBd_r h
    obtain ⟨l2, hlt, hn12⟩ := lcP_ok l ha
    obtain ⟨U2, gr⟩ := l2.1
    have he := gr.2.2.2.2.2.1
    have hse := sk_le (B := B) he
    by_cases c1 : n ≤ sk B n a.2.1
    · rw [if_pos c1] at h
      rw [← Sum.inr.inj h]
      exact ⟨a.2.1, a.2.2.2, l2, by rw [List.length_append]; show Cs.length + 1 ≤ 12; omega⟩
    · rw [if_neg c1] at h
      by_cases c2 : B (sk B n a.2.1) = 59
      · rw [if_pos c2] at h
        exact lwP_ok (by rw [List.length_append]; show Cs.length + 1 + fu = 13; omega) (by rw [List.length_append]; show Cs.length + 1 ≤ 12; omega) ⟨⟨U2, gr.up (by have := sk_ge (B := B) (n := n) (p := a.2.1); omega) (by omega)⟩, l2.2⟩ h
      · rw [if_neg c2] at h; cases h
/-- what the reference's law leaves -/
def LZ (k : Nat) (h : qa_M) (r : Nat ⊕ (List LCl × Cd)) (z : Int32 × qa_M) : Prop := z.2.1 119 20 = 0 ∧ QZ k 0 h z.2 ∧ (∀ j, j < k → z.2.1 142 j = h.1 142 j) ∧ match r with
  | .inl f => z.1 = -2 - nn f ∧ z.2.1 119 24 = nn k
  | .inr r => z.1 = nn k ∧ z.2.1 119 24 = nn (k + 1) ∧ z.2.1 142 k = nn r.1.length ∧ RCl k r.1 z.2 ∧ ∀ i, i < r.2.length → z.2.1 140 (300 * k + i) = nn (r.2.getD i (0, 0)).1 ∧ z.2.1 141 (300 * k + i) = nn (r.2.getD i (0, 0)).2
theorem r_law {k : Nat} {B : Nat → Nat} {n : Nat} {h : qa_M} (t : TpR B n h) (hk : h.1 119 24 = nn k) (k4 : k < 4) (h7 : h.1 119 29 = 7) : qW (m_X12_law h) (LZ k h (lwP B n 13 0 [] 0 [])) := by
  have h400 := t.2.1
  unfold m_X12_law
  rw [if_neg (fun q => by rw [hk, show (4 : Int32) = nn 4 from rfl, nn_eq (by omega) (by omega)] at q; omega), qbd_e, hk]
  unfold m_X12_starts
  rw [qbd_e, qbd_e, qbd_e, qbd_e, qbd_e, qbv_s, qbd_e, qbd_e]
  obtain ⟨G, hG⟩ : ∃ G, G = qw_I (qw_I (qw_I (qw_I (qw_I (qw_I h 119 23 (nn k)) 119 21 0) 119 22 0) 119 25 0) 119 26 0) 119 27 0 := ⟨_, rfl⟩
  rw [← hG]
  have f1 : qfr [(119, 22), (119, 23), (119, 24), (119, 26), (119, 27), (119, 28)] h G := by
    rw [hG]
    exact qfr_Ik rfl (by simp) (qfr_Ik rfl (by simp) (qfr_Ik rfl (by simp) (qfr_Ik rfl (by simp) (qfr_Ik rfl (by simp) (qfr_Ik rfl (by simp) qfr_rf)))))
  have rG : LR1 k B n 0 [] 0 G := ⟨TpR_fr t f1 rfl (fun j => rfl), by rw [hG, wI_ne (by omega), wI_ne (by omega), wI_ne (by omega), wI_ne (by omega), wI_at]; rfl, by rw [hG, wI_ne (by omega), wI_ne (by omega), wI_ne (by omega), wI_at], ⟨by rw [hG, wI_ne (by omega), wI_ne (by omega), wI_at]; rfl, by rw [hG, wI_ne (by omega), wI_ne (by omega), wI_ne (by omega), wI_ne (by omega), wI_ne (by omega), wI_at], fun i hi => absurd hi (Nat.not_lt_zero _)⟩, by rw [hG, wI_at]; rfl, (f1.1 119 29 rfl).1.trans h7, by rw [hG, wI_ne (by omega), wI_at]⟩
  have qG : QZ k 0 h G := QZ_f f1 (fun b j h1 h2 => by unfold inW; simp; omega)
  refine r_lawLoop (h0 := G) k4 13 0 [] 0 [] G (by decide) (by decide) (LI_0 h400) rG (fun i hi => absurd hi (Nat.not_lt_zero _)) QZ_rf qfr_rf ?_
  intro m g hm fg qg hz
  have f2 : qfr wLz G g := fg
  have e23 : g.1 119 23 = nn k := (f2.1 119 23 rfl).1.trans rG.2.2.2.1.2.1
  have e24 : g.1 119 24 = nn k := by rw [(f2.1 119 24 rfl).1, (f1.1 119 24 rfl).1, hk]
  have e142 : ∀ j, g.1 142 j = h.1 142 j := fun j => by rw [(f2.1 142 j rfl).1, (f1.1 142 j rfl).1]
  unfold f_X12_law_b46
  rw [qbd_e, wI_ne (by omega), e23, qck_nn k4 (by omega), qbd_e, nn_cl (by omega)]
  have eF : ∀ v, (qw_I (qw_I g 119 20 0) 142 k v).1 119 22 = g.1 119 22 := fun v => by rw [wI_ne (by omega), wI_ne (by omega)]
  have eN : ∀ v, (qw_I (qw_I g 119 20 0) 142 k v).1 119 24 = nn k := fun v => by rw [wI_ne (by omega), wI_ne (by omega), e24]
  rw [eF, eN]
  unfold f_X12_law_b78
  rw [qbd_e, qbd_e]
  have h22 : ∀ v w, (qw_I (qw_I (qw_I g 119 20 0) 142 k v) 119 24 w).1 119 22 = g.1 119 22 := fun v w => by rw [wI_ne (by omega), eF]
  rw [h22, h22, wI_at, wI_at]
  have base : ∀ v w, (qw_I (qw_I (qw_I g 119 20 0) 142 k v) 119 24 w).1 119 20 = 0 ∧ QZ k 0 h (qw_I (qw_I (qw_I g 119 20 0) 142 k v) 119 24 w) ∧ (∀ j, j < k → (qw_I (qw_I (qw_I g 119 20 0) 142 k v) 119 24 w).1 142 j = h.1 142 j) := by
    intro v w
    refine ⟨by rw [wI_ne (by omega), wI_ne (by omega), wI_at], QZ_tr qG (QZ_tr qg ?_), fun j hj => by rw [wI_ne (by omega), wI_ne (by omega), wI_ne (by omega)]; exact e142 j⟩
    have f3 : qfr [(119, 21), (119, 25), (142, 0)] g (qw_I (qw_I (qw_I g 119 20 0) 142 k v) 119 24 w) := qfr_Ik rfl (by simp) (qfr_I0 rfl (by simp) (qfr_Ik rfl (by simp) qfr_rf))
    exact ⟨fun j _ => ⟨(f3.1 140 j rfl).1, (f3.1 141 j rfl).1⟩, fun b j h1 h2 _ => (f3.1 b j (by unfold inW; simp; omega)).1⟩
  cases q : lwP B n 13 0 [] 0 [] with
  | inl f =>
    rw [q] at hz
    have hz : g.1 119 22 = nn f := hz
    have er := lwP_er (by decide) (by decide) (LI_0 h400) q
    obtain ⟨er1, er2⟩ := er
    rw [hz, if_neg (fun q => by rw [show (0 : Int32) = nn 0 from rfl, nn_eq (by omega) (by omega)] at q; omega), if_neg (fun q => by rw [show (0 : Int32) = nn 0 from rfl, nn_le (by omega) (by omega)] at q; omega), qW_some]
    obtain ⟨b1, b2, b3⟩ := base (nn m) (nn k + 0)
    exact ⟨b1, b2, b3, rfl, by rw [wI_at, Int32.add_zero]⟩
  | inr r =>
    rw [q] at hz
    obtain ⟨z1, z2, z3, z4⟩ := hz
    rw [z1, if_pos rfl, if_pos (by decide), qW_some]
    obtain ⟨b1, b2, b3⟩ := base (nn m) (nn k + 1)
    have f3 : qfr [(119, 21), (119, 25), (142, 0)] g (qw_I (qw_I (qw_I g 119 20 0) 142 k (nn m)) 119 24 (nn k + 1)) := qfr_Ik rfl (by simp) (qfr_I0 rfl (by simp) (qfr_Ik rfl (by simp) qfr_rf))
    refine ⟨b1, b2, b3, by show nn k + 1 - 1 = nn k; rw [Int32.add_sub_cancel], by rw [wI_at, nn_add1], by rw [wI_ne (by omega), wI_at, z4], RCl_keep z2 ⟨fun j _ => ⟨(f3.1 140 j rfl).1, (f3.1 141 j rfl).1⟩, fun b j h1 h2 _ => (f3.1 b j (by unfold inW; simp; omega)).1⟩, fun i hi => ?_⟩
    · rw [(f3.1 140 _ rfl).1, (f3.1 141 _ rfl).1]; exact z3.2.2 i hi
