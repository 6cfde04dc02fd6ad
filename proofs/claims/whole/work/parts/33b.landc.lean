/-! A LAND IS READ: the class -/
def RelD (s : Sg) (h : qa_M) : Prop :=
  (h.1 14 0 = s 0 0 ∧ h.1 14 1 = s 0 1 ∧ h.1 14 2 = s 0 2 ∧ h.1 14 3 = s 0 3 ∧ h.1 14 4 = s 0 4 ∧ h.1 14 5 = nn (nT s)) ∧ h.2.1 14 7 = mkm (fun q => decide (s 1 q = 1)) 36 ∧ (∀ i, i < gH s → h.1 15 i = s 2 i ∧ h.1 16 i = s 3 i) ∧ (∀ i, i < gO s → h.2.1 18 i = roadM s i) ∧ ∀ i, i < gS s → h.1 19 i = s 6 i
theorem RelD_fr {W : List (Nat × Nat)} {s : Sg} {h g : qa_M} (r : RelD s h) (f : qfr W h g) (hw : ∀ b j, 14 ≤ b → b ≤ 19 → inW W b j = false) : RelD s g := by
  obtain ⟨⟨a0, a1, a2, a3, a4, a5⟩, b, c, d, e⟩ := r
  have q : ∀ b j, 14 ≤ b → b ≤ 19 → g.1 b j = h.1 b j := fun b j h1 h2 => (f.1 b j (hw b j h1 h2)).1
  have q2 : ∀ b j, 14 ≤ b → b ≤ 19 → g.2.1 b j = h.2.1 b j := fun b j h1 h2 => (f.1 b j (hw b j h1 h2)).2.1
  refine ⟨⟨?_, ?_, ?_, ?_, ?_, ?_⟩, ?_, fun i hi => ⟨?_, ?_⟩, fun i hi => ?_, fun i hi => ?_⟩
  · rw [q 14 0 (by omega) (by omega)]; exact a0
  · rw [q 14 1 (by omega) (by omega)]; exact a1
  · rw [q 14 2 (by omega) (by omega)]; exact a2
  · rw [q 14 3 (by omega) (by omega)]; exact a3
  · rw [q 14 4 (by omega) (by omega)]; exact a4
  · rw [q 14 5 (by omega) (by omega)]; exact a5
  · rw [q2 14 7 (by omega) (by omega)]; exact b
  · rw [q 15 i (by omega) (by omega)]; exact (c i hi).1
  · rw [q 16 i (by omega) (by omega)]; exact (c i hi).2
  · rw [q2 18 i (by omega) (by omega)]; exact d i hi
  · rw [q 19 i (by omega) (by omega)]; exact e i hi
def CS (B : Nat → Nat) (n : Nat) (s : Sg) (p : Nat) (h : qa_M) : Prop := TpC B n h ∧ TkC B n (sk B n p) h ∧ RelD s h ∧ h.1 1 7 = 0 ∧ p ≤ n
def wTn : List (Nat × Nat) := [(1, 3), (1, 4), (1, 5), (1, 6), (1, 7), (1, 8)]
/-- a number taken on the way -/
theorem k_tk {B : Nat → Nat} {n p lo hi : Nat} {s : Sg} {h : qa_M} {α : Type} {K : Int32 → qa_M → Option α} {P : α → Prop} (c : CS B n s p h) (hlo : lo < 2147483648) (h9 : hi ≤ 99999)
    (h0 : ∀ f g, pNum B n p lo hi = .inl f → g.1 1 7 = nn f → qW (K 0 g) P)
    (h1 : ∀ v e g, pNum B n p lo hi = .inr (v, e) → g.1 1 6 = nn v → CS B n s e g → (∀ j, g.1 20 j = h.1 20 j) → qW (K 1 g) P) : qW (qbn (m_X9_takeNumber (nn lo) (nn hi) h) K) P := by
  obtain ⟨t, tk, r, f0, hp⟩ := c
  rw [qW_bn]
  refine qW_fr (k_take t tk f0 hlo h9) (fun z e => fr_X9_takeNumber _ _ _ e) ?_
  rintro ⟨x, g⟩ hz f0
  have f1 : qfr wTn h g := f0
  rw [pNum_sk] at hz
  cases q : pNum B n p lo hi with
  | inl k => rw [q] at hz; obtain ⟨z1, z2⟩ := hz; have z1 : x = 0 := z1; subst z1; exact h0 k g q z2
  | inr v =>
    obtain ⟨v, e⟩ := v
    rw [q] at hz
    obtain ⟨z1, z2, z3, z4⟩ := hz
    have z1 : x = 1 := z1
    subst z1
    refine h1 v e g q z2 ⟨TpC_fr t f1 rfl (fun j => rfl), z3, RelD_fr r f1 (fun b j h1 h2 => by unfold wTn inW; simp; omega), z4, (pNum_ok q hp).2.2.2.1⟩ (fun j => (f1.1 20 j rfl).1)
def CE (r : Nat) (z : Int32 × qa_M) : Prop := z.1 = 0 ∧ z.2.1 1 7 = nn r
theorem CS_up {B : Nat → Nat} {n p : Nat} {s t : Sg} {h g : qa_M} {W : List (Nat × Nat)} (c : CS B n s p h) (f : qfr W h g) (w1 : ∀ b j, 1 ≤ b → b ≤ 2 → inW W b j = false) (r : RelD t g) : CS B n t p g := by
  obtain ⟨a, b, _, d, e⟩ := c
  exact ⟨TpC_fr a f (w1 1 1 (by omega) (by omega)) (fun j => w1 2 j (by omega) (by omega)), TkC_fr b f (w1 1 2 (by omega) (by omega)) (w1 1 3 (by omega) (by omega)) (w1 1 4 (by omega) (by omega)) (w1 1 5 (by omega) (by omega)), r, by rw [(f.1 1 7 (w1 1 7 (by omega) (by omega))).1]; exact d, e⟩
theorem k_readSquare {B : Nat → Nat} {n p : Nat} {s : Sg} {h : qa_M} (w : WF s) (hC : 2 ≤ gC s) (hR : 2 ≤ gR s) (c : CS B n s p h) :
    qW (m_X4_readSquare h) (fun z => match pSq B n s p with
      | .inl f => CE f z
      | .inr a => z.1 = 1 ∧ z.2.1 20 2 = nn a.1 ∧ z.2.1 20 3 = nn a.2.1 ∧ CS B n s a.2.2 z.2) := by
  have lc := w.c.2
  have lr := w.r.2
  unfold m_X4_readSquare
  rw [show h.1 14 0 = nn (gC s) from c.2.2.1.1.1.trans w.c.1, nn_sub1 (by omega)]
  refine k_tk (lo := 0) c (by omega) (by omega) ?_ ?_
  · intro f g q e7
    rw [if_pos rfl, qW_some]
    have e0 : pSq B n s p = .inl f := by simp only [pSq, pBd, q]
    rw [e0]
    exact ⟨rfl, e7⟩
  · intro v e g q e6 cg h20
    rw [if_neg (by decide), qbd_e, e6]
    have f1 : qfr [(20, 3)] g (qw_I g 20 2 (nn v)) := qfr_Ik rfl (by simp) qfr_rf
    have c1 : CS B n s e (qw_I g 20 2 (nn v)) := CS_up cg f1 (fun b j h1 h2 => by unfold inW; simp; omega) (RelD_fr cg.2.2.1 f1 (fun b j h1 h2 => by unfold inW; simp; omega))
    rw [show (qw_I g 20 2 (nn v)).1 14 1 = nn (gR s) from c1.2.2.1.1.2.1.trans w.r.1, nn_sub1 (by omega)]
    refine k_tk (lo := 0) c1 (by omega) (by omega) ?_ ?_
    · intro f g2 q2 e7
      rw [if_pos rfl, qW_some]
      have e0 : pSq B n s p = .inl f := by simp only [pSq, pBd, q, q2]
      rw [e0]
      exact ⟨rfl, e7⟩
    · intro v2 e2 g2 q2 e62 cg2 h202
      rw [if_neg (by decide), qbd_e, e62, qW_some]
      have f2 : qfr [(20, 4)] g2 (qw_I g2 20 3 (nn v2)) := qfr_Ik rfl (by simp) qfr_rf
      have e0 : pSq B n s p = .inr (v, v2, e2) := by simp only [pSq, pBd, q, q2]
      rw [e0]
      refine ⟨rfl, ?_, wI_at, CS_up cg2 f2 (fun b j h1 h2 => by unfold inW; simp; omega) (RelD_fr cg2.2.2.1 f2 (fun b j h1 h2 => by unfold inW; simp; omega))⟩
      show (qw_I g2 20 3 (nn v2)).1 20 2 = nn v
      rw [wI_ne (by omega), h202, wI_at]
theorem k_readBox {B : Nat → Nat} {n p : Nat} {s : Sg} {h : qa_M} (w : WF s) (hC : 2 ≤ gC s) (hR : 2 ≤ gR s) (c : CS B n s p h) :
    qW (m_X4_readBox h) (fun z => match pBox B n s p with
      | .inl f => CE f z
      | .inr a => z.1 = 1 ∧ z.2.1 20 2 = nn a.1 ∧ z.2.1 20 3 = nn a.2.1 ∧ z.2.1 20 4 = nn a.2.2.1 ∧ z.2.1 20 5 = nn a.2.2.2.1 ∧ CS B n s a.2.2.2.2 z.2) := by
  have lc := w.c.2
  have lr := w.r.2
  have hp := c.2.2.2.2
  unfold m_X4_readBox
  rw [qW_bn]
  refine qW_mono (k_readSquare w hC hR c) ?_
  rintro ⟨x, g⟩ hz
  cases q : pSq B n s p with
  | inl f =>
    rw [q] at hz
    obtain ⟨z1, z2⟩ := hz
    have z1 : x = 0 := z1
    subst z1
    rw [if_pos rfl, qW_some]
    have e0 : pBox B n s p = .inl f := by simp only [pBox, pBd, q]
    rw [e0]
    exact ⟨rfl, z2⟩
  | inr a =>
    obtain ⟨a1, a2, e⟩ := a
    rw [q] at hz
    obtain ⟨z1, z2, z3, cg⟩ := hz
    have z1 : x = 1 := z1
    have z2 : g.1 20 2 = nn a1 := z2
    have z3 : g.1 20 3 = nn a2 := z3
    have cg : CS B n s e g := cg
    have ok := pSq_ok q hp hC hR
    subst z1
    show qW (if (1 : Int32) = 0 then _ else qbn (m_X9_takeNumber (g.1 20 2) ((g.1 14 0) - 1) g) _) _
    rw [if_neg (by decide), z2, show g.1 14 0 = nn (gC s) from cg.2.2.1.1.1.trans w.c.1, nn_sub1 (by omega)]
    refine k_tk cg (by omega) (by omega) ?_ ?_
    · intro f g2 q2 e7
      rw [if_pos rfl, qW_some]
      have e0 : pBox B n s p = .inl f := by simp only [pBox, pBd, q, q2]
      rw [e0]
      exact ⟨rfl, e7⟩
    · intro v e2 g2 q2 e6 cg2 h20
      have ok2 := pNum_ok q2 (show e ≤ n by omega)
      rw [if_neg (by decide), qbd_e, e6]
      have f1 : qfr [(20, 5)] g2 (qw_I g2 20 4 (nn v)) := qfr_Ik rfl (by simp) qfr_rf
      have c1 : CS B n s e2 (qw_I g2 20 4 (nn v)) := CS_up cg2 f1 (fun b j h1 h2 => by unfold inW; simp; omega) (RelD_fr cg2.2.2.1 f1 (fun b j h1 h2 => by unfold inW; simp; omega))
      rw [show (qw_I g2 20 4 (nn v)).1 14 1 = nn (gR s) from c1.2.2.1.1.2.1.trans w.r.1, nn_sub1 (by omega), show (qw_I g2 20 4 (nn v)).1 20 3 = nn a2 by rw [wI_ne (by omega), h20, z3]]
      refine k_tk c1 (by omega) (by omega) ?_ ?_
      · intro f g3 q3 e7
        rw [if_pos rfl, qW_some]
        have e0 : pBox B n s p = .inl f := by simp only [pBox, pBd, q, q2, q3]
        rw [e0]
        exact ⟨rfl, e7⟩
      · intro v2 e3 g3 q3 e62 cg3 h202
        rw [if_neg (by decide), qbd_e, e62, qW_some]
        have f2 : qfr [(20, 6)] g3 (qw_I g3 20 5 (nn v2)) := qfr_Ik rfl (by simp) qfr_rf
        have e0 : pBox B n s p = .inr (a1, a2, v, v2, e3) := by simp only [pBox, pBd, q, q2, q3]
        rw [e0]
        refine ⟨rfl, ?_, ?_, ?_, wI_at, CS_up cg3 f2 (fun b j h1 h2 => by unfold inW; simp; omega) (RelD_fr cg3.2.2.1 f2 (fun b j h1 h2 => by unfold inW; simp; omega))⟩
        · show (qw_I g3 20 5 (nn v2)).1 20 2 = nn a1
          rw [wI_ne (by omega), h202, wI_ne (by omega), h20, z2]
        · show (qw_I g3 20 5 (nn v2)).1 20 3 = nn a2
          rw [wI_ne (by omega), h202, wI_ne (by omega), h20, z3]
        · show (qw_I g3 20 5 (nn v2)).1 20 4 = nn v
          rw [wI_ne (by omega), h202, wI_at]
/-- a box of squares -/
def mrow (x y j q : Nat) : Bool := decide (q / 6 = y) && decide (x ≤ q % 6 ∧ q % 6 < j)
theorem k_box {h : qa_M} {x y x2 y2 : Nat} (hx : x ≤ x2 + 1) (hx2 : x2 < 6) (hy : y ≤ y2 + 1) (hy2 : y2 < 6) : m_X2_box (nn x) (nn y) (nn x2) (nn y2) h = some (mkm (inB x y x2 y2) 36, h) := by
  have inner : ∀ i, i < 6 → ∀ d j, j + d = x2 + 1 → x ≤ j → f_X2_box_b15_loop (nn x) (nn x2) (nn y2) (mkm (fun q => (decide (y ≤ q / 6 ∧ q / 6 < i) && decide (x ≤ q % 6 ∧ q % 6 ≤ x2)) || mrow x i j q) 36) (nn i) (nn j) h = some (.inl (nn x, nn x2, nn y2, mkm (fun q => (decide (y ≤ q / 6 ∧ q / 6 < i) && decide (x ≤ q % 6 ∧ q % 6 ≤ x2)) || mrow x i (x2 + 1) q) 36, nn (i + 1), h)) := by
    intro i hi d
    induction d with
    | zero =>
      intro j hj hxj
      have : j = x2 + 1 := by omega
      subst this
      unfold f_X2_box_b15_loop
      refine qlp_out ?_
      show f_X2_box_b15 (nn x) (nn x2) (nn y2) _ (nn i) (nn (x2 + 1)) h = _
      unfold f_X2_box_b15 f_X2_box_b39
      rw [if_pos ((nn_lt (by omega) (by omega)).mpr (by omega)), qbd_e, nn_add1, qup_s]
    | succ d ih =>
      intro j hj hxj
      rw [← ih (j + 1) (by omega) (by omega)]
      unfold f_X2_box_b15_loop
      refine qlp_in ?_
      show f_X2_box_b15 (nn x) (nn x2) (nn y2) _ (nn i) (nn j) h = _
      unfold f_X2_box_b15 m_X2_bit
      have em : mkm (fun q => (decide (y ≤ q / 6 ∧ q / 6 < i) && decide (x ≤ q % 6 ∧ q % 6 ≤ x2)) || mrow x i j q) 36 ||| q_lshl 1 (nn (6 * i + j)) = mkm (fun q => (decide (y ≤ q / 6 ∧ q / 6 < i) && decide (x ≤ q % 6 ∧ q % 6 ≤ x2)) || mrow x i (j + 1) q) 36 := by
        refine mkm_of (by omega) (fun k hk => ?_)
        rw [tb_or, tb_mkm (by omega), tb_bit (by omega), Bool.eq_iff_iff]
        unfold mrow
        simp only [Bool.or_eq_true, Bool.and_eq_true, decide_eq_true_eq]
        omega
      rw [if_neg (fun q => by rw [nn_lt (by omega) (by omega)] at q; omega), qbn_s, qbd_e, qbd_e, nn_add1, show (6 : Int32) = nn 6 from rfl, nn_mul, nn_add, em]
  unfold m_X2_box f_X2_box_b6_loop
  rw [qbd_e, qbd_e]
  have main := qlp_for0 (b := fun sz : Int32 × Int32 × Int32 × Int64 × Int32 × qa_M => f_X2_box_b6 sz.1 sz.2.1 sz.2.2.1 sz.2.2.2.1 sz.2.2.2.2.1 sz.2.2.2.2.2) (r := (mkm (inB x y x2 y2) 36, h)) (fun k => (nn x, nn x2, nn y2, mkm (fun q => decide (y ≤ q / 6 ∧ q / 6 < y + k) && decide (x ≤ q % 6 ∧ q % 6 ≤ x2)) 36, nn (y + k), h)) (y2 + 1 - y) ?_ ?_
  · rw [show mkm (fun q => decide (y ≤ q / 6 ∧ q / 6 < y + 0) && decide (x ≤ q % 6 ∧ q % 6 ≤ x2)) 36 = 0 from tb_eq0.mpr (fun k hk => by
      rw [tb_mkm (by omega)]
      rw [decide_eq_false (show ¬ (y ≤ k / 6 ∧ k / 6 < y + 0) by omega)]
      simp)] at main
    exact main
  · intro k hk
    show f_X2_box_b6 (nn x) (nn x2) (nn y2) _ (nn (y + k)) h = _
    unfold f_X2_box_b6
    rw [if_neg (fun q => by rw [nn_lt (by omega) (by omega)] at q; omega), qbd_e]
    have q := inner (y + k) (by omega) (x2 + 1 - x) x (by omega) (Nat.le_refl _)
    rw [show mkm (fun q => (decide (y ≤ q / 6 ∧ q / 6 < y + k) && decide (x ≤ q % 6 ∧ q % 6 ≤ x2)) || mrow x (y + k) x q) 36 = mkm (fun q => decide (y ≤ q / 6 ∧ q / 6 < y + k) && decide (x ≤ q % 6 ∧ q % 6 ≤ x2)) 36 from mkm_congr (fun q hq => by
      unfold mrow
      rw [decide_eq_false (show ¬ (x ≤ q % 6 ∧ q % 6 < x) by omega)]
      simp)] at q
    have em : mkm (fun q => (decide (y ≤ q / 6 ∧ q / 6 < y + k) && decide (x ≤ q % 6 ∧ q % 6 ≤ x2)) || mrow x (y + k) (x2 + 1) q) 36 = mkm (fun q => decide (y ≤ q / 6 ∧ q / 6 < y + (k + 1)) && decide (x ≤ q % 6 ∧ q % 6 ≤ x2)) 36 := by
      refine mkm_congr (fun q hq => ?_)
      unfold mrow
      rw [Bool.eq_iff_iff]
      simp only [Bool.or_eq_true, Bool.and_eq_true, decide_eq_true_eq]
      omega
    rw [em] at q
    exact q
  · show f_X2_box_b6 (nn x) (nn x2) (nn y2) _ (nn (y + (y2 + 1 - y))) h = _
    unfold f_X2_box_b6
    rw [if_pos ((nn_lt (by omega) (by omega)).mpr (by omega)), qup_s]
    have em : mkm (fun q => decide (y ≤ q / 6 ∧ q / 6 < y + (y2 + 1 - y)) && decide (x ≤ q % 6 ∧ q % 6 ≤ x2)) 36 = mkm (inB x y x2 y2) 36 := by
      refine mkm_congr (fun q hq => ?_)
      unfold inB
      rw [Bool.eq_iff_iff]
      simp only [Bool.and_eq_true, decide_eq_true_eq]
      omega
    rw [em]
