/-! A LAW IS READ: the reference's clause -/
def QZ (k m : Nat) (h g : qa_M) : Prop := (∀ j, j < 300 * k → g.1 140 j = h.1 140 j ∧ g.1 141 j = h.1 141 j) ∧ ∀ b j, 143 ≤ b → b ≤ 147 → j < 12 * k + m → g.1 b j = h.1 b j
theorem QZ_rf {k m : Nat} {h : qa_M} : QZ k m h h := ⟨fun _ _ => ⟨rfl, rfl⟩, fun _ _ _ _ _ => rfl⟩
theorem QZ_tr {k m : Nat} {h g f : qa_M} (a : QZ k m h g) (b : QZ k m g f) : QZ k m h f := ⟨fun j hj => ⟨(b.1 j hj).1.trans (a.1 j hj).1, (b.1 j hj).2.trans (a.1 j hj).2⟩, fun x j h1 h2 hj => (b.2 x j h1 h2 hj).trans (a.2 x j h1 h2 hj)⟩
theorem QZ_f {k m : Nat} {W : List (Nat × Nat)} {h g : qa_M} (f : qfr W h g) (w : ∀ b j, 140 ≤ b → b ≤ 147 → inW W b j = false) : QZ k m h g := ⟨fun j _ => ⟨(f.1 _ _ (w _ _ (by omega) (by omega))).1, (f.1 _ _ (w _ _ (by omega) (by omega))).1⟩, fun b j h1 h2 _ => (f.1 _ _ (w _ _ (by omega) (by omega))).1⟩
theorem QZ_w {k m b j : Nat} {h : qa_M} {v : Int32} (h1 : 143 ≤ b) (hj : 12 * k + m ≤ j) : QZ k m h (qw_I h b j v) := ⟨fun i hi => ⟨wI_ne (by omega), wI_ne (by omega)⟩, fun x i h3 h4 hi => wI_ne (by omega)⟩
theorem QZ_le {k m m2 : Nat} {h g : qa_M} (a : QZ k m h g) (hm : m2 ≤ m) : QZ k m2 h g := ⟨a.1, fun b j h1 h2 hj => a.2 b j h1 h2 (by omega)⟩
theorem wAm_147 : ∀ b j, 120 ≤ b → inW wAm b j = false := fun b j hb => by unfold wAm inW; simp; omega
theorem r_amW {B : Nat → Nat} {n p lo hi : Nat} {h : qa_M} {α : Type} {K : Int32 → qa_M → Option α} {P : α → Prop} (t : TpR B n h) (e : h.1 119 21 = nn p) (hp : p ≤ n) (f0 : h.1 119 22 = 0) (hlo : lo < 2147483648) (h9 : hi ≤ 99999)
    (h0 : ∀ x f g, pNum B n p lo hi = .inl f → RG B n f g → erB n f → qfr wAm h g → qW (K x g) P)
    (h1 : ∀ v e g, pNum B n p lo hi = .inr (v, e) → g.1 119 21 = nn e → g.1 119 22 = 0 → e ≤ n → qfr wAm h g → qW (K (nn v) g) P) : qW (qbn (m_X12_amount (nn lo) (nn hi) h) K) P := by
  rw [qW_bn]
  refine qW_fr (r_amount t e hp f0 hlo (by omega) h9) (fun z e => fr_X12_amount _ _ _ e) ?_
  rintro ⟨x, g⟩ hz fx
  have f1 : qfr wAm h g := fx
  have tg := TpR_fr t f1 rfl (fun j => rfl)
  cases q : pNum B n p lo hi with
  | inl k =>
    rw [q] at hz
    exact h0 x k g q ⟨tg, hz.2, hz.1⟩ (pNum_er q hp) f1
  | inr v =>
    obtain ⟨v, e2⟩ := v
    rw [q] at hz
    obtain ⟨z1, z2, z3⟩ := hz
    have z1 : x = nn v := z1
    subst z1
    exact h1 v e2 g q z3 z2 (pNum_ok q hp).2.2.2.1 f1
theorem RG.n0 {B : Nat → Nat} {n f : Nat} {h : qa_M} (r : RG B n f h) (er : erB n f) : ¬ h.1 119 22 = 0 := by
  obtain ⟨t, -, e⟩ := r
  have := t.2.1
  obtain ⟨h1, h2⟩ := er
  rw [e, show (0 : Int32) = nn 0 from rfl, nn_eq (by omega) (by omega)]
  omega
theorem r_amWF {B : Nat → Nat} {n f : Nat} {x y : Int32} {h : qa_M} {α : Type} {K : Int32 → qa_M → Option α} {P : α → Prop} (c : RG B n f h) (er : erB n f)
    (h0 : ∀ g, RG B n f g → qfr wAm h g → qW (K 0 g) P) : qW (qbn (m_X12_amount x y h) K) P := by
  have n0 := c.n0 er
  obtain ⟨t, ⟨p, hp, e⟩, e22⟩ := c
  rw [qW_bn]
  refine qW_fr (r_amountF t e hp n0) (fun z e => fr_X12_amount _ _ _ e) ?_
  rintro ⟨v, g⟩ hz fx
  have f1 : qfr wAm h g := fx
  obtain ⟨z1, z2, z3⟩ := hz
  have z3 : v = 0 := z3
  subst z3
  exact h0 g ⟨TpR_fr t f1 rfl (fun j => rfl), ⟨sk B n p, sk_le hp, z2⟩, z1.trans e22⟩ f1
theorem RG.x {B : Nat → Nat} {n f : Nat} {h : qa_M} (r : RG B n f h) (er : erB n f) : LX B n f h := by
  obtain ⟨t, ⟨p, hp, e⟩, e22⟩ := r
  exact ⟨t, ⟨p, by omega, e⟩, e22, er⟩
theorem RG_w {B : Nat → Nat} {n f b j : Nat} {v : Int32} {h : qa_M} (r : RG B n f h) (hb : 140 ≤ b) : RG B n f (qw_I h b j v) := by
  obtain ⟨t, ⟨p, hp, e⟩, e22⟩ := r
  exact ⟨⟨by rw [wI_ne (by omega)]; exact t.1, t.2.1, fun i hi => ⟨(t.2.2 i hi).1, by rw [wI_ne (by omega)]; exact (t.2.2 i hi).2⟩⟩, ⟨p, hp, by rw [wI_ne (by omega)]; exact e⟩, by rw [wI_ne (by omega)]; exact e22⟩
theorem LX_w {B : Nat → Nat} {n f b j : Nat} {v : Int32} {h : qa_M} (r : LX B n f h) (hb : 140 ≤ b) : LX B n f (qw_I h b j v) := by
  obtain ⟨t, ⟨p, hp, e⟩, e22, er⟩ := r
  exact ⟨⟨by rw [wI_ne (by omega)]; exact t.1, t.2.1, fun i hi => ⟨(t.2.2 i hi).1, by rw [wI_ne (by omega)]; exact (t.2.2 i hi).2⟩⟩, ⟨p, hp, by rw [wI_ne (by omega)]; exact e⟩, by rw [wI_ne (by omega)]; exact e22, er⟩
theorem r_cl161 {j : Nat} {h : qa_M} (hj : j < 48) : f_X12_lawClause_b161 (nn j) h = some (qw_I h 147 j (h.1 119 25)) := by
  unfold f_X12_lawClause_b161
  rw [qck_nn hj (by omega), qbd_e, nn_cl (by omega)]
theorem r_cl134F {B : Nat → Nat} {n f k m j : Nat} {x v : Int32} {h : qa_M} (hj : j < 48) (hm : 12 * k + m ≤ j) (r : RG B n f h) (er : erB n f) : qW (f_X12_lawClause_b134 x (nn j) (nn j) v h) (fun g => LX B n f g ∧ QZ k m h g) := by
  unfold f_X12_lawClause_b134
  rw [qck_nn hj (by omega), qbd_e, nn_cl (by omega), qck_nn hj (by omega), qbd_e]
  have r1 : RG B n f (qw_I (qw_I h 145 j v) 146 j ((qw_I h 145 j v).1 119 25)) := RG_w (RG_w r (by omega)) (by omega)
  have q1 : QZ k m h (qw_I (qw_I h 145 j v) 146 j ((qw_I h 145 j v).1 119 25)) := QZ_tr (QZ_w (by omega) hm) (QZ_w (by omega) hm)
  rw [if_neg (r1.n0 er), ite_self, r_cl161 hj, qW_some]
  exact ⟨LX_w (r1.x er) (by omega), QZ_tr q1 (QZ_w (by omega) hm)⟩
theorem r_cl113F {B : Nat → Nat} {n f k m j : Nat} {x v : Int32} {h : qa_M} (hj : j < 48) (hm : 12 * k + m ≤ j) (r : RG B n f h) (er : erB n f) : qW (f_X12_lawClause_b113 x (nn j) (nn j) v h) (fun g => LX B n f g ∧ QZ k m h g) := by
  unfold f_X12_lawClause_b113
  rw [qck_nn hj (by omega), qbd_e, nn_cl (by omega)]
  have r1 : RG B n f (qw_I h 144 j v) := RG_w r (by omega)
  have q1 : QZ k m h (qw_I h 144 j v) := QZ_w (by omega) hm
  by_cases c : x = 0
  · rw [if_pos c]
    exact qW_mono (r_cl134F hj hm r1 er) (fun g hg => ⟨hg.1, QZ_tr q1 hg.2⟩)
  · rw [if_neg c]
    refine r_amWF r1 er ?_
    intro g rg fg
    exact qW_mono (r_cl134F hj hm rg er) (fun g2 hg => ⟨hg.1, QZ_tr q1 (QZ_tr (QZ_f fg (fun b j h1 h2 => wAm_147 b j (by omega))) hg.2)⟩)
def RC1 (k i : Nat) (x : LCl) (h : qa_M) : Prop := h.1 143 (12 * k + i) = nn x.1 ∧ h.1 144 (12 * k + i) = (if x.2.2.2.2.2 then (-1 : Int32) else nn x.2.1) ∧ h.1 145 (12 * k + i) = nn x.2.2.1 ∧ h.1 146 (12 * k + i) = nn x.2.2.2.1 ∧ h.1 147 (12 * k + i) = nn x.2.2.2.2.1
def RCl (k : Nat) (Cs : List LCl) (h : qa_M) : Prop := ∀ i, i < Cs.length → RC1 k i (gc Cs i) h
theorem RCl_up {k : Nat} {Cs : List LCl} {x : LCl} {h g : qa_M} (r : RCl k Cs h) (q : QZ k Cs.length h g) (c : RC1 k Cs.length x g) : RCl k (Cs ++ [x]) g := by
  intro i hi
  rw [List.length_append] at hi
  have hi : i < Cs.length + 1 := hi
  by_cases ci : i = Cs.length
  · subst ci
    rw [gc_new]
    exact c
  · rw [gc_old (by omega)]
    have e : ∀ b, 143 ≤ b → b ≤ 147 → g.1 b (12 * k + i) = h.1 b (12 * k + i) := fun b h1 h2 => q.2 b _ h1 h2 (by omega)
    unfold RC1
    rw [e _ (by omega) (by omega), e _ (by omega) (by omega), e _ (by omega) (by omega), e _ (by omega) (by omega), e _ (by omega) (by omega)]
    exact r i (by omega)
theorem RCl_keep {k : Nat} {Cs : List LCl} {h g : qa_M} (r : RCl k Cs h) (q : QZ k Cs.length h g) : RCl k Cs g := by
  intro i hi
  have e : ∀ b, 143 ≤ b → b ≤ 147 → g.1 b (12 * k + i) = h.1 b (12 * k + i) := fun b h1 h2 => q.2 b _ h1 h2 (by omega)
  unfold RC1
  rw [e _ (by omega) (by omega), e _ (by omega) (by omega), e _ (by omega) (by omega), e _ (by omega) (by omega), e _ (by omega) (by omega)]
  exact r i hi
theorem LR1_f {W : List (Nat × Nat)} {k : Nat} {B : Nat → Nat} {n p p2 : Nat} {E : Cd} {c : Nat} {h g : qa_M} (r : LR1 k B n p E c h) (f : qfr W h g) (w0 : inW W 119 20 = false) (w1 : inW W 119 23 = false) (w2 : inW W 119 25 = false) (w3 : inW W 119 26 = false) (w4 : inW W 119 27 = false) (w5 : inW W 119 29 = false) (w6 : ∀ b j, 139 ≤ b → b ≤ 141 → inW W b j = false) (e : g.1 119 21 = nn p2) (e0 : g.1 119 22 = 0) : LR1 k B n p2 E c g := by
  obtain ⟨t, -, -, mm, hc, h7, h26⟩ := r
  exact ⟨TpR_fr t f w0 (fun j => w6 _ _ (by omega) (by omega)), e, e0, RM_fr mm f w2 w1 (fun b j h1 h2 => w6 _ _ (by omega) (by omega)), (f.1 _ _ w4).1.trans hc, (f.1 _ _ w5).1.trans h7, (f.1 _ _ w3).1.trans h26⟩
theorem LR1_am {k : Nat} {B : Nat → Nat} {n p p2 : Nat} {E : Cd} {c : Nat} {h g : qa_M} (r : LR1 k B n p E c h) (f : qfr wAm h g) (e : g.1 119 21 = nn p2) (e0 : g.1 119 22 = 0) : LR1 k B n p2 E c g := LR1_f r f rfl rfl rfl rfl rfl rfl (fun b j h1 h2 => wAm_147 b j (by omega)) e e0
theorem LR1_w {k : Nat} {B : Nat → Nat} {n p b j : Nat} {v : Int32} {E : Cd} {c : Nat} {h : qa_M} (r : LR1 k B n p E c h) (hb : 142 ≤ b) : LR1 k B n p E c (qw_I h b j v) := by
  have f : qfr [(b, 0)] h (qw_I h b j v) := qfr_I0 rfl (by simp) qfr_rf
  have w : ∀ a i, a < 142 → inW [(b, 0)] a i = false := fun a i ha => by unfold inW; simp; omega
  exact LR1_f r f (w _ _ (by omega)) (w _ _ (by omega)) (w _ _ (by omega)) (w _ _ (by omega)) (w _ _ (by omega)) (w _ _ (by omega)) (fun a i h1 h2 => w _ _ (by omega)) (by rw [wI_ne (by omega)]; exact r.2.1) (by rw [wI_ne (by omega)]; exact r.2.2.1)
/-- what a clause of the reference leaves -/
def LNo (k : Nat) (B : Nat → Nat) (n : Nat) (Cs : List LCl) (r : Nat ⊕ (LCl × Nat × Cd × Nat)) (g : qa_M) : Prop := match r with
  | .inl f => LX B n f g
  | .inr a => LR1 k B n a.2.1 a.2.2.1 a.2.2.2 g ∧ RCl k (Cs ++ [a.1]) g
theorem r_lawClause {k : Nat} {B : Nat → Nat} {n p : Nat} {E : Cd} {c : Nat} {Cs : List LCl} {h : qa_M} (hk : k < 4) (hC : Cs.length ≤ 12) (l : LI n p E c Cs) (r : LR1 k B n p E c h) (rc : RCl k Cs h) : qW (m_X12_lawClause (nn Cs.length) h) (fun g => LNo k B n Cs (lcP B n Cs.length p E c) g ∧ QZ k Cs.length h g) := by
  obtain ⟨U, gi⟩ := l.1
  have hp := gi.2.2.2.2.2.1
  have h400 := r.1.2.1
  have hsk := sk_ge (B := B) (n := n) (p := p)
  have hskn := sk_le (B := B) hp
  unfold m_X12_lawClause
  rw [qW_bv]
  refine qW_fr (r_blanks r.1 r.2.1 hp) (fun z e => fr_X12_blanks _ e) ?_
  intro g1 e1 f1
  have f1 : qfr [(119, 22)] h g1 := f1
  have r1 : LR1 k B n (sk B n p) E c g1 := LR1_f r f1 rfl rfl rfl rfl rfl rfl (fun b j h1 h2 => by unfold inW; simp; omega) e1 (by rw [(f1.1 119 22 rfl).1]; exact r.2.2.1)
  have q1 : QZ k Cs.length h g1 := QZ_f f1 (fun b j h1 h2 => by unfold inW; simp; omega)
  rw [qbd_e, e1, r_stood r1.1 e1 hskn (by omega), qbn_s, qbd_e]
  have fl : ∀ x, x ≤ 5 → lcP B n Cs.length p E c = .inl (ER (sk B n p) x) → qW (qbv (m_X12_fails (nn x) (nn (sk B n p)) g1) (fun h34 : qa_M => some h34)) (fun g => LNo k B n Cs (lcP B n Cs.length p E c) g ∧ QZ k Cs.length h g) := by
    intro x hx q
    rw [r_fails r1.2.2.1, qbv_s, qW_some, q]
    have fw : qfr [(119, 23)] g1 (qw_I g1 119 22 (nn (ER (sk B n p) x))) := qfr_Ik rfl (by simp) qfr_rf
    exact ⟨⟨TpR_fr r1.1 fw rfl (fun j => rfl), ⟨sk B n p, by omega, by rw [wI_ne (by omega)]; exact e1⟩, wI_at, ER_b hskn hx⟩, QZ_tr q1 (QZ_f fw (fun b j h1 h2 => by unfold inW; simp; omega))⟩
  have e38 : ∀ x3 : Int32, f_X12_lawClause_b38 (nn Cs.length) (nn (sk B n p)) x3 g1 = if Cs.length = 12 then qbv (m_X12_fails (nn 4) (nn (sk B n p)) g1) (fun h34 : qa_M => some h34) else f_X12_lawClause_b65 (nn Cs.length) x3 (nn (sk B n p)) (if x3 = 0 then (3 : Int32) else 5) g1 := by
    intro x3
    unfold f_X12_lawClause_b38
    rw [e1]
    by_cases c12 : Cs.length = 12
    · rw [if_pos (by rw [c12]; rfl), if_pos c12]; rfl
    · rw [if_neg (fun q => by rw [show (12 : Int32) = nn 12 from rfl, nn_eq (by omega) (by omega)] at q; exact c12 q), if_neg c12]
      by_cases c3 : x3 = 0
      · rw [if_pos c3, if_pos c3]
      · rw [if_neg c3, if_neg c3]
  -- behind the word
  have b65 : ∀ (x3 : Int32) (w : Nat), (nn (sk B n p) + (if x3 = 0 then (3 : Int32) else 5)) = nn (sk B n p + w) → sk B n p + w ≤ n → Cs.length ≠ 12 → (x3 = 0 → lcP B n Cs.length p E c = pBd (pNum B n (sk B n p + w) 0 3) (fun a => pBd (pRec B n 31 true 0 a.2 E c) (fun r => .inr ((a.1, 0, 0, E.length, r.2.1.length, true), r.1, r.2.1, r.2.2)))) → (¬ x3 = 0 → lcP B n Cs.length p E c = pBd (pNum B n (sk B n p + w) 0 3) (fun a => pBd (pNum B n a.2 0 3) (fun b => pBd (pNum B n b.2 1 5) (fun d => .inr ((a.1, b.1, d.1, E.length, E.length, false), d.2, E, c))))) → qW (f_X12_lawClause_b65 (nn Cs.length) x3 (nn (sk B n p)) (if x3 = 0 then (3 : Int32) else 5) g1) (fun g => LNo k B n Cs (lcP B n Cs.length p E c) g ∧ QZ k Cs.length h g) := by
    intro x3 w hw hwn c12 p0 p1
    have hj : 12 * k + Cs.length < 48 := by omega
    unfold f_X12_lawClause_b65
    rw [qbd_e, hw]
    obtain ⟨g2, hg2⟩ : ∃ g2, g2 = qw_I g1 119 21 (nn (sk B n p + w)) := ⟨_, rfl⟩
    rw [← hg2]
    have f2 : qfr [(119, 22)] g1 g2 := by rw [hg2]; exact qfr_Ik rfl (by simp) qfr_rf
    have r2 : LR1 k B n (sk B n p + w) E c g2 := LR1_f r1 f2 rfl rfl rfl rfl rfl rfl (fun b j h1 h2 => by unfold inW; simp; omega) (by rw [hg2, wI_at]) (by rw [(f2.1 119 22 rfl).1]; exact r1.2.2.1)
    have q2 : QZ k Cs.length h g2 := QZ_tr q1 (QZ_f f2 (fun b j h1 h2 => by unfold inW; simp; omega))
    rw [qbd_e, r2.2.2.2.1.2.1, show (12 : Int32) = nn 12 from rfl, nn_mul, nn_add]
    refine r_amW (lo := 0) (hi := 3) r2.1 r2.2.1 hwn r2.2.2.1 (by omega) (by omega) ?_ ?_
    · intro x f g3 q rg er f3
      have q3 : QZ k Cs.length h (qw_I g3 143 (12 * k + Cs.length) x) := QZ_tr q2 (QZ_tr (QZ_f f3 (fun b j h1 h2 => wAm_147 b j (by omega))) (QZ_w (by omega) (Nat.le_refl _)))
      rw [qck_nn hj (by omega), qbd_e, nn_cl (by omega)]
      by_cases c3 : x3 = 0
      · rw [if_pos c3, p0 c3, q]
        exact qW_mono (r_cl113F hj (Nat.le_refl _) (RG_w rg (by omega)) er) (fun g hg => ⟨hg.1, QZ_tr q3 hg.2⟩)
      · rw [if_neg c3, p1 c3, q]
        refine r_amWF (RG_w rg (by omega)) er ?_
        intro g4 rg4 f4
        exact qW_mono (r_cl113F hj (Nat.le_refl _) rg4 er) (fun g hg => ⟨hg.1, QZ_tr q3 (QZ_tr (QZ_f f4 (fun b j h1 h2 => wAm_147 b j (by omega))) hg.2)⟩)
    · intro v1 e3 g3 qv he3 z3 he3n f3
      have r3 : LR1 k B n e3 E c (qw_I g3 143 (12 * k + Cs.length) (nn v1)) := LR1_w (LR1_am r2 f3 he3 z3) (by omega)
      have q3 : QZ k Cs.length h (qw_I g3 143 (12 * k + Cs.length) (nn v1)) := QZ_tr q2 (QZ_tr (QZ_f f3 (fun b j h1 h2 => wAm_147 b j (by omega))) (QZ_w (by omega) (Nat.le_refl _)))
      rw [qck_nn hj (by omega), qbd_e, nn_cl (by omega)]
      have a1 := pNum_ok qv hwn
      by_cases c3 : x3 = 0
      · rw [if_pos c3, p0 c3, qv]
        show qW _ (fun g => LNo k B n Cs (pBd (pRec B n 31 true 0 e3 E c) _) g ∧ _)
        unfold f_X12_lawClause_b113
        rw [qck_nn hj (by omega), qbd_e, nn_cl (by omega), if_pos c3]
        unfold f_X12_lawClause_b134
        rw [qck_nn hj (by omega), qbd_e, nn_cl (by omega), qck_nn hj (by omega), qbd_e, if_pos c3]
        obtain ⟨g5, hg5⟩ : ∃ g5, g5 = qw_I (qw_I (qw_I g3 143 (12 * k + Cs.length) (nn v1)) 144 (12 * k + Cs.length) (-1)) 145 (12 * k + Cs.length) 0 := ⟨_, rfl⟩
        rw [← hg5]
        have r5 : LR1 k B n e3 E c g5 := by rw [hg5]; exact LR1_w (LR1_w r3 (by omega)) (by omega)
        rw [r5.2.2.2.1.1]
        have r6 : LR1 k B n e3 E c (qw_I g5 146 (12 * k + Cs.length) (nn E.length)) := LR1_w r5 (by omega)
        have q6 : QZ k Cs.length h (qw_I g5 146 (12 * k + Cs.length) (nn E.length)) := by
          rw [hg5]
          exact QZ_tr q3 (QZ_tr (QZ_w (by omega) (Nat.le_refl _)) (QZ_tr (QZ_w (by omega) (Nat.le_refl _)) (QZ_w (by omega) (Nat.le_refl _))))
        rw [if_pos r6.2.2.1, qW_bv]
        have g0 : GI n e3 E c U 0 := gi.up (by omega) he3n
        have hEl := g0.2.2.1
        have hEc := g0.2.2.2.2.1
        refine qW_fr (Q := fun g => QR k (qw_I g5 146 (12 * k + Cs.length) (nn E.length)) g ∧ qfr w_X12_test (qw_I g5 146 (12 * k + Cs.length) (nn E.length)) g) (r_test hk g0 r6) (fun z e => ⟨gr_X12_test hk _ e, fr_X12_test _ e⟩) ?_
        rintro g7 hz ⟨qr, f7⟩
        have sl : SL k (qw_I g5 146 (12 * k + Cs.length) (nn E.length)) := ⟨r6.2.2.2.1.2.1, E.length, by have := g0.len; omega, r6.2.2.2.1.1⟩
        have q7 : QZ k Cs.length h g7 := QZ_tr q6 ⟨(qr sl).2, fun b j h1 h2 hj => (f7.1 b j (by unfold w_X12_test inW; simp; omega)).1⟩
        rw [r_cl161 hj, qW_some]
        have q8 : QZ k Cs.length h (qw_I g7 147 (12 * k + Cs.length) (g7.1 119 25)) := QZ_tr q7 (QZ_w (by omega) (Nat.le_refl _))
        refine ⟨?_, q8⟩
        cases q : pRec B n 31 true 0 e3 E c with
        | inl f => rw [q] at hz; exact LX_w hz (by omega)
        | inr t =>
          rw [q] at hz
          have hz : LR1 k B n t.1 t.2.1 t.2.2 g7 := hz
          refine ⟨LR1_w hz (by omega), RCl_up rc q8 ⟨?_, ?_, ?_, ?_, ?_⟩⟩
          · rw [wI_ne (by omega), (f7.1 143 _ rfl).1, wI_ne (by omega), hg5, wI_ne (by omega), wI_ne (by omega), wI_at]
          · rw [wI_ne (by omega), (f7.1 144 _ rfl).1, wI_ne (by omega), hg5, wI_ne (by omega), wI_at]; rfl
          · rw [wI_ne (by omega), (f7.1 145 _ rfl).1, wI_ne (by omega), hg5, wI_at]; rfl
          · rw [wI_ne (by omega), (f7.1 146 _ rfl).1, wI_at]
          · rw [wI_at, hz.2.2.2.1.1]
      · rw [if_neg c3, p1 c3, qv]
        show qW _ (fun g => LNo k B n Cs (pBd (pNum B n e3 0 3) _) g ∧ _)
        refine r_amW (lo := 0) (hi := 3) r3.1 r3.2.1 he3n r3.2.2.1 (by omega) (by omega) ?_ ?_
        · intro x f g4 q rg er f4
          rw [q]
          exact qW_mono (r_cl113F hj (Nat.le_refl _) rg er) (fun g hg => ⟨hg.1, QZ_tr q3 (QZ_tr (QZ_f f4 (fun b j h1 h2 => wAm_147 b j (by omega))) hg.2)⟩)
        · intro v2 e4 g4 qv2 he4 z4 he4n f4
          rw [qv2]
          show qW _ (fun g => LNo k B n Cs (pBd (pNum B n e4 1 5) _) g ∧ _)
          have r4 : LR1 k B n e4 E c (qw_I g4 144 (12 * k + Cs.length) (nn v2)) := LR1_w (LR1_am r3 f4 he4 z4) (by omega)
          have q4 : QZ k Cs.length h (qw_I g4 144 (12 * k + Cs.length) (nn v2)) := QZ_tr q3 (QZ_tr (QZ_f f4 (fun b j h1 h2 => wAm_147 b j (by omega))) (QZ_w (by omega) (Nat.le_refl _)))
          unfold f_X12_lawClause_b113
          rw [qck_nn hj (by omega), qbd_e, nn_cl (by omega), if_neg c3]
          refine r_amW (lo := 1) (hi := 5) r4.1 r4.2.1 he4n r4.2.2.1 (by omega) (by omega) ?_ ?_
          · intro x f g5 q rg er f5
            rw [q]
            exact qW_mono (r_cl134F hj (Nat.le_refl _) rg er) (fun g hg => ⟨hg.1, QZ_tr q4 (QZ_tr (QZ_f f5 (fun b j h1 h2 => wAm_147 b j (by omega))) hg.2)⟩)
          · intro v3 e5 g5 qv3 he5 z5 he5n f5
            rw [qv3]
            have r5 : LR1 k B n e5 E c (qw_I g5 145 (12 * k + Cs.length) (nn v3)) := LR1_w (LR1_am r4 f5 he5 z5) (by omega)
            unfold f_X12_lawClause_b134
            rw [qck_nn hj (by omega), qbd_e, nn_cl (by omega), qck_nn hj (by omega), qbd_e, if_neg c3, r_cl161 hj, qW_some, r5.2.2.2.1.1]
            have r6 : LR1 k B n e5 E c (qw_I (qw_I g5 145 (12 * k + Cs.length) (nn v3)) 146 (12 * k + Cs.length) (nn E.length)) := LR1_w r5 (by omega)
            rw [r6.2.2.2.1.1]
            have q6 : QZ k Cs.length h (qw_I (qw_I (qw_I g5 145 (12 * k + Cs.length) (nn v3)) 146 (12 * k + Cs.length) (nn E.length)) 147 (12 * k + Cs.length) (nn E.length)) := QZ_tr q4 (QZ_tr (QZ_f f5 (fun b j h1 h2 => wAm_147 b j (by omega))) (QZ_tr (QZ_w (by omega) (Nat.le_refl _)) (QZ_tr (QZ_w (by omega) (Nat.le_refl _)) (QZ_w (by omega) (Nat.le_refl _)))))
            refine ⟨⟨LR1_w r6 (by omega), RCl_up rc q6 ⟨?_, ?_, ?_, ?_, ?_⟩⟩, q6⟩
            · rw [wI_ne (by omega), wI_ne (by omega), wI_ne (by omega), (f5.1 143 _ rfl).1, wI_ne (by omega), (f4.1 143 _ rfl).1, wI_at]
            · rw [wI_ne (by omega), wI_ne (by omega), wI_ne (by omega), (f5.1 144 _ rfl).1, wI_at]; rfl
            · rw [wI_ne (by omega), wI_ne (by omega), wI_at]
            · rw [wI_ne (by omega), wI_at]
            · rw [wI_at]
  by_cases c1 : wis B n (sk B n p) 10 = true
  · have hl := wis_le hskn c1
    rw [show (wrd 10).length = 5 from rfl] at hl
    rw [c1, if_neg (by decide), e38]
    by_cases c12 : Cs.length = 12
    · rw [if_pos c12]
      exact fl 4 (by omega) (by unfold lcP; rw [if_pos c1, if_pos c12])
    · rw [if_neg c12]
      exact b65 (bi true) 5 (by rw [if_neg (by decide), show (5 : Int32) = nn 5 from rfl, nn_add]) hl c12 (fun q => absurd q (by decide)) (fun _ => by unfold lcP; rw [if_pos c1, if_neg c12])
  · have c1f : wis B n (sk B n p) 10 = false := by rw [Bool.not_eq_true] at c1; exact c1
    rw [c1f, if_pos (by decide), r_stood r1.1 e1 hskn (by omega), qbn_s]
    by_cases c2 : wis B n (sk B n p) 11 = true
    · have hl := wis_le hskn c2
      rw [show (wrd 11).length = 3 from rfl] at hl
      rw [c2, if_neg (by decide), e38]
      by_cases c12 : Cs.length = 12
      · rw [if_pos c12]
        exact fl 4 (by omega) (by unfold lcP; rw [if_neg c1, if_pos c2, if_pos c12])
      · rw [if_neg c12]
        exact b65 (bi false) 3 (by rw [if_pos (by decide), show (3 : Int32) = nn 3 from rfl, nn_add]) hl c12 (fun _ => by unfold lcP; rw [if_neg c1, if_pos c2, if_neg c12]) (fun q => absurd (by decide) q)
    · have c2f : wis B n (sk B n p) 11 = false := by rw [Bool.not_eq_true] at c2; exact c2
      rw [c2f, if_pos (by decide)]
      exact fl 0 (by omega) (by unfold lcP; rw [if_neg c1, if_neg c2])
