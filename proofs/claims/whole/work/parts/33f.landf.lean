/-! A LAND IS READ: the reference -/
def sgN (h : qa_M) : Sg := fun i j => if i < 7 ∧ (i = 0 → j < 5) then h.1 (132 + i) j else 0
theorem sgN_w {h : qa_M} {i j : Nat} {v : Int32} (hi : i < 7) (hj : i = 0 → j < 5) : sgN (qw_I h (132 + i) j v) = upS (sgN h) i j v := by
  funext a b
  unfold upS
  show (if a < 7 ∧ (a = 0 → b < 5) then (qw_I h (132 + i) j v).1 (132 + a) b else 0) = if a = i ∧ b = j then v else (if a < 7 ∧ (a = 0 → b < 5) then h.1 (132 + a) b else 0)
  by_cases c : a < 7 ∧ (a = 0 → b < 5)
  · rw [if_pos c, if_pos c]
    by_cases e : a = i ∧ b = j
    · rw [if_pos e, e.1, e.2, wI_at]
    · rw [if_neg e, wI_ne (by omega)]
  · rw [if_neg c, if_neg c, if_neg]
    rintro ⟨rfl, rfl⟩
    exact c ⟨hi, hj⟩
theorem sgN_fr {W : List (Nat × Nat)} {h g : qa_M} (f : qfr W h g) (hw : ∀ b j, 132 ≤ b → b ≤ 138 → inW W b j = false) : sgN g = sgN h := by
  funext a b
  unfold sgN
  by_cases c : a < 7 ∧ (a = 0 → b < 5)
  · rw [if_pos c, if_pos c, (f.1 _ _ (hw _ _ (by omega) (by omega))).1]
  · rw [if_neg c, if_neg c]
theorem sgN_0 {h : qa_M} {j : Nat} (hj : j < 5) : h.1 132 j = sgN h 0 j := by unfold sgN; rw [if_pos ⟨by omega, fun _ => hj⟩]
theorem sgN_i {h : qa_M} {i j : Nat} (h0 : 0 < i) (h7 : i < 7) : h.1 (132 + i) j = sgN h i j := by unfold sgN; rw [if_pos ⟨h7, fun q => by omega⟩]
def RT (B : Nat → Nat) (n : Nat) (s : Sg) (p : Nat) (h : qa_M) : Prop := TpR B n h ∧ h.1 119 21 = nn p ∧ h.1 119 22 = 0 ∧ sgN h = s ∧ p ≤ n
def RG (B : Nat → Nat) (n f : Nat) (h : qa_M) : Prop := TpR B n h ∧ (∃ p, p ≤ n ∧ h.1 119 21 = nn p) ∧ h.1 119 22 = nn f
def RF (B : Nat → Nat) (n : Nat) (s : Sg) (f : Nat) (h : qa_M) : Prop := RG B n f h ∧ erB n f ∧ ∀ j, j < 5 → h.1 132 j = s 0 j
def wAm : List (Nat × Nat) := [(119, 22), (119, 23)]
theorem RF.n0 {B : Nat → Nat} {n f : Nat} {s : Sg} {h : qa_M} (r : RF B n s f h) : ¬ h.1 119 22 = 0 := by
  obtain ⟨⟨t, _, e⟩, ⟨h1, h2⟩, _⟩ := r
  have := t.2.1
  rw [e, show (0 : Int32) = nn 0 from rfl, nn_eq (by omega) (by omega)]
  omega
theorem RT.at {B : Nat → Nat} {n p : Nat} {s : Sg} {h : qa_M} (r : RT B n s p h) {j : Nat} (hj : j < 5) : h.1 132 j = s 0 j := by rw [sgN_0 hj, r.2.2.2.1]
theorem r_am {B : Nat → Nat} {n p lo hi : Nat} {s : Sg} {h : qa_M} {α : Type} {K : Int32 → qa_M → Option α} {P : α → Prop} (c : RT B n s p h) (hlo : lo < 2147483648) (h9 : hi ≤ 99999)
    (h0 : ∀ x f g, pNum B n p lo hi = .inl f → RF B n s f g → qW (K x g) P)
    (h1 : ∀ v e g, pNum B n p lo hi = .inr (v, e) → RT B n s e g → qW (K (nn v) g) P) : qW (qbn (m_X12_amount (nn lo) (nn hi) h) K) P := by
  obtain ⟨t, e, f0, hs, hp⟩ := c
  rw [qW_bn]
  refine qW_fr (r_amount t e hp f0 hlo (by omega) h9) (fun z e => fr_X12_amount _ _ _ e) ?_
  rintro ⟨x, g⟩ hz fx
  have f1 : qfr wAm h g := fx
  have tg := TpR_fr t f1 rfl (fun j => rfl)
  have sG : sgN g = s := by rw [sgN_fr f1 (fun b j h1 h2 => by unfold wAm inW; simp; omega), hs]
  cases q : pNum B n p lo hi with
  | inl k =>
    rw [q] at hz
    exact h0 x k g q ⟨⟨tg, hz.2, hz.1⟩, pNum_er q hp, fun j hj => by rw [sgN_0 hj, sG]⟩
  | inr v =>
    obtain ⟨v, e2⟩ := v
    rw [q] at hz
    obtain ⟨z1, z2, z3⟩ := hz
    have z1 : x = nn v := z1
    subst z1
    exact h1 v e2 g q ⟨tg, z3, z2, sG, (pNum_ok q hp).2.2.2.1⟩
theorem r_amF {B : Nat → Nat} {n f : Nat} {x y : Int32} {s : Sg} {h : qa_M} {α : Type} {K : Int32 → qa_M → Option α} {P : α → Prop} (c : RF B n s f h)
    (h0 : ∀ g, RF B n s f g → qW (K 0 g) P) : qW (qbn (m_X12_amount x y h) K) P := by
  have n0 := c.n0
  obtain ⟨⟨t, ⟨p, hp, e⟩, e22⟩, er, hs⟩ := c
  rw [qW_bn]
  refine qW_fr (r_amountF t e hp n0) (fun z e => fr_X12_amount _ _ _ e) ?_
  rintro ⟨v, g⟩ hz fx
  have f1 : qfr wAm h g := fx
  obtain ⟨z1, z2, z3⟩ := hz
  have z3 : v = 0 := z3
  subst z3
  exact h0 g ⟨⟨TpR_fr t f1 rfl (fun j => rfl), ⟨sk B n p, sk_le hp, z2⟩, z1.trans e22⟩, er, fun j hj => by rw [(f1.1 132 j rfl).1]; exact hs j hj⟩
theorem qbn_eta {x : Option (Int32 × qa_M)} : qbn x (fun (c : Int32) (g : qa_M) => some (c, g)) = x := by
  cases x with
  | none => rfl
  | some a => rfl
theorem spotX_eq {x : Int32} {h : qa_M} : m_X12_spotX x h = m_X12_amount x (h.1 132 0 - 1) h := by
  unfold m_X12_spotX
  rw [qck_ok (by decide), qbn_eta]
  rfl
theorem spotY_eq {x : Int32} {h : qa_M} : m_X12_spotY x h = m_X12_amount x (h.1 132 1 - 1) h := by
  unfold m_X12_spotY
  rw [qck_ok (by decide), qbn_eta]
  rfl
theorem r_spX {B : Nat → Nat} {n p lo : Nat} {s : Sg} {h : qa_M} {α : Type} {K : Int32 → qa_M → Option α} {P : α → Prop} (w : WF s) (hC : 2 ≤ gC s) (c : RT B n s p h) (hlo : lo < 2147483648)
    (h0 : ∀ x f g, pNum B n p lo (gC s - 1) = .inl f → RF B n s f g → qW (K x g) P)
    (h1 : ∀ v e g, pNum B n p lo (gC s - 1) = .inr (v, e) → RT B n s e g → qW (K (nn v) g) P) : qW (qbn (m_X12_spotX (nn lo) h) K) P := by
  have := w.c.2
  rw [spotX_eq, c.at (by omega), w.c.1, nn_sub1 (by omega)]
  exact r_am c hlo (by omega) h0 h1
theorem r_spY {B : Nat → Nat} {n p lo : Nat} {s : Sg} {h : qa_M} {α : Type} {K : Int32 → qa_M → Option α} {P : α → Prop} (w : WF s) (hR : 2 ≤ gR s) (c : RT B n s p h) (hlo : lo < 2147483648)
    (h0 : ∀ x f g, pNum B n p lo (gR s - 1) = .inl f → RF B n s f g → qW (K x g) P)
    (h1 : ∀ v e g, pNum B n p lo (gR s - 1) = .inr (v, e) → RT B n s e g → qW (K (nn v) g) P) : qW (qbn (m_X12_spotY (nn lo) h) K) P := by
  have := w.r.2
  rw [spotY_eq, c.at (by omega), w.r.1, nn_sub1 (by omega)]
  exact r_am c hlo (by omega) h0 h1
theorem r_spXF {B : Nat → Nat} {n f : Nat} {x : Int32} {s : Sg} {h : qa_M} {α : Type} {K : Int32 → qa_M → Option α} {P : α → Prop} (c : RF B n s f h)
    (h0 : ∀ g, RF B n s f g → qW (K 0 g) P) : qW (qbn (m_X12_spotX x h) K) P := by rw [spotX_eq]; exact r_amF c h0
theorem r_spYF {B : Nat → Nat} {n f : Nat} {x : Int32} {s : Sg} {h : qa_M} {α : Type} {K : Int32 → qa_M → Option α} {P : α → Prop} (c : RF B n s f h)
    (h0 : ∀ g, RF B n s f g → qW (K 0 g) P) : qW (qbn (m_X12_spotY x h) K) P := by rw [spotY_eq]; exact r_amF c h0
/-- a square is read on the way -/
theorem r_sq {B : Nat → Nat} {n p : Nat} {s : Sg} {h : qa_M} {α : Type} {K : Int32 → Int32 → qa_M → Option α} {P : α → Prop} (w : WF s) (hC : 2 ≤ gC s) (hR : 2 ≤ gR s) (c : RT B n s p h)
    (h0 : ∀ x y f g, pSq B n s p = .inl f → RF B n s f g → qW (K x y g) P)
    (h1 : ∀ x y e g, pSq B n s p = .inr (x, y, e) → RT B n s e g → qW (K (nn x) (nn y) g) P) : qW (qbn (m_X12_spotX (0 : Int32) h) (fun (c2 : Int32) (h2 : qa_M) => qbd c2 (fun v5 : Int32 => qbn (m_X12_spotY (0 : Int32) h2) (fun (c8 : Int32) (h8 : qa_M) => qbd c8 (fun v11 : Int32 => K v5 v11 h8))))) P := by
  refine r_spX (lo := 0) w hC c (by omega) ?_ ?_
  · intro x f g q rf
    rw [qbd_e]
    refine r_spYF rf ?_
    intro g2 rf2
    rw [qbd_e]
    exact h0 x 0 f g2 (by simp only [pSq, pBd, q]) rf2
  · intro v e g q rs
    rw [qbd_e]
    refine r_spY (lo := 0) w hR rs (by omega) ?_ ?_
    · intro x f g2 q2 rf2
      rw [qbd_e]
      exact h0 (nn v) x f g2 (by simp only [pSq, pBd, q, q2]) rf2
    · intro v2 e2 g2 q2 rs2
      rw [qbd_e]
      exact h1 v v2 e2 g2 (by simp only [pSq, pBd, q, q2]) rs2
theorem r_bx {B : Nat → Nat} {n p : Nat} {s : Sg} {h : qa_M} {α : Type} {K : Int32 → Int32 → Int32 → Int32 → qa_M → Option α} {P : α → Prop} (w : WF s) (hC : 2 ≤ gC s) (hR : 2 ≤ gR s) (c : RT B n s p h)
    (h0 : ∀ x y x2 y2 f g, pBox B n s p = .inl f → RF B n s f g → qW (K x y x2 y2 g) P)
    (h1 : ∀ x y x2 y2 e g, pBox B n s p = .inr (x, y, x2, y2, e) → RT B n s e g → qW (K (nn x) (nn y) (nn x2) (nn y2) g) P) : qW (qbn (m_X12_spotX (0 : Int32) h) (fun (c2 : Int32) (h2 : qa_M) => qbd c2 (fun v5 : Int32 => qbn (m_X12_spotY (0 : Int32) h2) (fun (c8 : Int32) (h8 : qa_M) => qbd c8 (fun v11 : Int32 => qbn (m_X12_spotX v5 h8) (fun (c14 : Int32) (h14 : qa_M) => qbd c14 (fun v17 : Int32 => qbn (m_X12_spotY v11 h14) (fun (c20 : Int32) (h20 : qa_M) => qbd c20 (fun v23 : Int32 => K v5 v11 v17 v23 h20))))))))) P := by
  have hp := c.2.2.2.2
  have lc := w.c.2
  have lr := w.r.2
  refine r_sq (K := fun v5 v11 h8 => qbn (m_X12_spotX v5 h8) (fun (c14 : Int32) (h14 : qa_M) => qbd c14 (fun v17 : Int32 => qbn (m_X12_spotY v11 h14) (fun (c20 : Int32) (h20 : qa_M) => qbd c20 (fun v23 : Int32 => K v5 v11 v17 v23 h20))))) w hC hR c ?_ ?_
  · intro x y f g q rf
    refine r_spXF rf ?_
    intro g2 rf2
    rw [qbd_e]
    refine r_spYF rf2 ?_
    intro g3 rf3
    rw [qbd_e]
    exact h0 x y 0 0 f g3 (by simp only [pBox, pBd, q]) rf3
  · intro x y e g q rs
    have ok := pSq_ok q hp hC hR
    refine r_spX w hC rs (by omega) ?_ ?_
    · intro v f g2 q2 rf2
      rw [qbd_e]
      refine r_spYF rf2 ?_
      intro g3 rf3
      rw [qbd_e]
      exact h0 (nn x) (nn y) v 0 f g3 (by simp only [pBox, pBd, q, q2]) rf3
    · intro v e2 g2 q2 rs2
      rw [qbd_e]
      refine r_spY w hR rs2 (by omega) ?_ ?_
      · intro v2 f g3 q3 rf3
        rw [qbd_e]
        exact h0 (nn x) (nn y) (nn v) v2 f g3 (by simp only [pBox, pBd, q, q2, q3]) rf3
      · intro v2 e3 g3 q3 rs3
        rw [qbd_e]
        exact h1 x y v v2 e3 g3 (by simp only [pBox, pBd, q, q2, q3]) rs3
def RR (B : Nat → Nat) (n : Nat) (r : Nat ⊕ (Sg × Nat)) (g : qa_M) : Prop := match r with
  | .inl f => RG B n f g
  | .inr a => RT B n a.1 a.2 g
theorem RG_up {B : Nat → Nat} {n f : Nat} {W : List (Nat × Nat)} {h g : qa_M} (r : RG B n f h) (fr : qfr W h g) (w1 : inW W 119 20 = false) (w2 : inW W 119 21 = false) (w3 : inW W 119 22 = false) (w4 : ∀ j, inW W 139 j = false) : RG B n f g := by
  obtain ⟨t, ⟨p, hp, e⟩, e2⟩ := r
  exact ⟨TpR_fr t fr w1 w4, ⟨p, hp, by rw [(fr.1 119 21 w2).1]; exact e⟩, by rw [(fr.1 119 22 w3).1]; exact e2⟩
theorem RT_up {B : Nat → Nat} {n p : Nat} {s t : Sg} {W : List (Nat × Nat)} {h g : qa_M} (r : RT B n s p h) (fr : qfr W h g) (w1 : inW W 119 20 = false) (w2 : inW W 119 21 = false) (w3 : inW W 119 22 = false) (w4 : ∀ j, inW W 139 j = false) (ht : sgN g = t) : RT B n t p g := by
  obtain ⟨tt, e, e2, _, hp⟩ := r
  exact ⟨TpR_fr tt fr w1 w4, by rw [(fr.1 119 21 w2).1]; exact e, by rw [(fr.1 119 22 w3).1]; exact e2, ht, hp⟩
theorem r_woods {B : Nat → Nat} {n p : Nat} {s : Sg} {h : qa_M} (w : WF s) (hC : 2 ≤ gC s) (hR : 2 ≤ gR s) (c : RT B n s p h) : qW (m_X12_woods h) (RR B n (cWood B n s p)) := by
  have hp := c.2.2.2.2
  have lc := w.c.2
  have lr := w.r.2
  unfold m_X12_woods
  refine r_bx (K := fun v5 v11 v17 v23 h20 => qbd (0 : Int32) (fun v26 : Int32 => f_X12_woods_b28_loop v5 v11 v17 v23 v26 h20)) w hC hR c ?_ ?_
  · intro x y x2 y2 f g q rf
    rw [qbd_e]
    unfold f_X12_woods_b28_loop
    refine qW_lpin ?_
    show qW (f_X12_woods_b28 x y x2 y2 0 g) _
    unfold f_X12_woods_b28
    rw [if_neg (by decide), if_neg rf.n0, qup_s, qW_some]
    have e0 : cWood B n s p = .inl f := by simp only [cWood, pBd, q]
    rw [e0]
    exact rf.1
  · intro x y x2 y2 e g q rs
    have ok := pBox_ok q hp hC hR
    have e0 : cWood B n s p = .inr (wdS s x y x2 y2, e) := by simp only [cWood, pBd, q]
    rw [qbd_e, e0]
    unfold f_X12_woods_b28_loop
    refine qW_for 36 (fun k z => ∃ G, z = (nn x, nn y, nn x2, nn y2, nn k, G) ∧ qfr [(133, 0)] g G ∧ sgN G = fun i j => if i = 1 ∧ j < k ∧ inB x y x2 y2 j = true then 1 else s i j) ?_ ?_ (Nat.zero_le _) ⟨g, rfl, qfr_rf, ?_⟩
    · rintro k z hk ⟨G, rfl, fG, sG⟩
      have f0 : G.1 119 22 = 0 := by rw [(fG.1 119 22 rfl).1]; exact rs.2.2.1
      show qW (f_X12_woods_b28 (nn x) (nn y) (nn x2) (nn y2) (nn k) G) _
      unfold f_X12_woods_b28
      rw [if_neg (fun q => by rw [show (36 : Int32) = nn 36 from rfl, nn_le (by omega) (by omega)] at q; omega), if_pos f0, r_in, qbn_s, nn_r6 (by omega), nn_64i (by omega), nn_64i (by omega), nn_64i (by omega)]
      have fin : ∀ v, v = (if inB x y x2 y2 k = true then 1 else G.1 133 k) → qW (f_X12_woods_b92 (nn x) (nn y) (nn x2) (nn y2) (nn k) (nn k) v G) (Sum.elim (fun z => ∃ G, z = (nn x, nn y, nn x2, nn y2, nn (k + 1), G) ∧ qfr [(133, 0)] g G ∧ sgN G = fun i j => if i = 1 ∧ j < k + 1 ∧ inB x y x2 y2 j = true then 1 else s i j) (RR B n (.inr (wdS s x y x2 y2, e)))) := by
        intro v hv
        unfold f_X12_woods_b92
        rw [qck_nn (by omega) (by omega), qbd_e, qbd_e, nn_add1, qW_some, nn_cl (by omega)]
        refine ⟨_, rfl, qfr_tr fG (qfr_I0 rfl (by simp) qfr_rf), ?_⟩
        rw [show (133 : Nat) = 132 + 1 from rfl, sgN_w (by omega) (by omega), sG]
        funext i j
        unfold upS
        by_cases c1 : i = 1 ∧ j = k
        · rw [if_pos c1, hv, c1.1, c1.2]
          have : G.1 133 k = s 1 k := by
            have := sgN_i (h := G) (i := 1) (j := k) (by omega) (by omega)
            rw [show 132 + 1 = 133 from rfl, sG] at this
            rw [this]
            show (if (1 : Nat) = 1 ∧ k < k ∧ inB x y x2 y2 k = true then 1 else s 1 k) = s 1 k
            rw [if_neg (fun q => by omega)]
          rw [this]
          by_cases c2 : inB x y x2 y2 k = true
          · rw [if_pos c2, if_pos ⟨rfl, by omega, c2⟩]
          · rw [if_neg c2, if_neg (fun q => c2 q.2.2)]
        · rw [if_neg c1]
          show (if i = 1 ∧ j < k ∧ inB x y x2 y2 j = true then 1 else s i j) = _
          by_cases c2 : i = 1 ∧ j < k ∧ inB x y x2 y2 j = true
          · rw [if_pos c2, if_pos ⟨c2.1, by omega, c2.2.2⟩]
          · rw [if_neg c2, if_neg (fun q => c2 ⟨q.1, by omega, q.2.2⟩)]
      by_cases c1 : x ≤ k % 6 ∧ k % 6 ≤ x2
      · rw [decide_eq_true (by omega), if_neg (by decide), r_in, qbn_s, nn_d6 (by omega), nn_64i (by omega), nn_64i (by omega), nn_64i (by omega)]
        by_cases c2 : y ≤ k / 6 ∧ k / 6 ≤ y2
        · rw [decide_eq_true (by omega), if_neg (by decide)]
          exact fin 1 (by rw [if_pos (by unfold inB; rw [decide_eq_true c1, decide_eq_true c2]; rfl)])
        · rw [decide_eq_false (by omega), if_pos (by decide)]
          unfold f_X12_woods_b85
          rw [qck_nn (by omega) (by omega), nn_cl (by omega)]
          exact fin _ (by rw [if_neg (by unfold inB; rw [decide_eq_false c2]; simp)])
      · rw [decide_eq_false (by omega), if_pos (by decide)]
        unfold f_X12_woods_b85
        rw [qck_nn (by omega) (by omega), nn_cl (by omega)]
        exact fin _ (by rw [if_neg (by unfold inB; rw [decide_eq_false c1]; simp)])
    · rintro z ⟨G, rfl, fG, sG⟩
      show qW (f_X12_woods_b28 (nn x) (nn y) (nn x2) (nn y2) (nn 36) G) _
      unfold f_X12_woods_b28
      rw [if_pos (by decide), qup_s, qW_some]
      exact RT_up rs fG rfl rfl rfl (fun j => rfl) sG
    · rw [rs.2.2.2.1]
      funext i j
      rw [if_neg (by omega)]
