/-! A LAW IS READ: the class's clauses -/
def CLp (a : Nat) (Cs : List LCl) (h : qa_M) : Prop :=
  h.1 a 0 = nn (cnt (ab Cs) Cs.length) ∧ h.1 a 4 = nn (cnt (bb Cs) Cs.length) ∧
  (∀ i, i < Cs.length → bb Cs i = false → h.1 (a + 1) (cnt (ab Cs) i) = nn (gc Cs i).1 ∧ h.1 (a + 2) (cnt (ab Cs) i) = nn (gc Cs i).2.1 ∧ h.1 (a + 3) (cnt (ab Cs) i) = nn (gc Cs i).2.2.1) ∧
  (∀ i, i < Cs.length → bb Cs i = true → h.1 (a + 4) (cnt (bb Cs) i) = nn (gc Cs i).1 ∧ h.1 (a + 5) (cnt (bb Cs) i) = nn (gc Cs i).2.2.2.1)
def wLa (a : Nat) : List (Nat × Nat) := [(1, 3), (1, 4), (1, 5), (1, 6), (1, 7), (1, 8), (21, 3), (21, 4), (a, 0), (a + 1, 0), (a + 2, 0), (a + 3, 0), (a + 4, 0), (a + 5, 0), (a + 6, 0)]
theorem CLp_fr {W : List (Nat × Nat)} {a : Nat} {Cs : List LCl} {h g : qa_M} (r : CLp a Cs h) (f : qfr W h g) (w0 : inW W a 0 = false) (w4 : inW W a 4 = false) (w : ∀ b j, a + 1 ≤ b → b ≤ a + 5 → inW W b j = false) : CLp a Cs g := by
  obtain ⟨r1, r2, r3, r4⟩ := r
  have e : ∀ b j, a + 1 ≤ b → b ≤ a + 5 → g.1 b j = h.1 b j := fun b j h1 h2 => (f.1 b j (w b j h1 h2)).1
  refine ⟨(f.1 a 0 w0).1.trans r1, (f.1 a 4 w4).1.trans r2, fun i hi hb => ?_, fun i hi hb => ?_⟩
  · rw [e _ _ (by omega) (by omega), e _ _ (by omega) (by omega), e _ _ (by omega) (by omega)]; exact r3 i hi hb
  · rw [e _ _ (by omega) (by omega), e _ _ (by omega) (by omega)]; exact r4 i hi hb
def LQ (H : qa_M) (a : Nat) (B : Nat → Nat) (n p : Nat) (E : Cd) (c : Nat) (Cs : List LCl) (h : qa_M) : Prop := LC a B n p E c h ∧ CLp a Cs h ∧ qfr (wLa a) H h
def LQE (H : qa_M) (a f : Nat) (z : Int32 × qa_M) : Prop := CE f z ∧ qfr (wLa a) H z.2
theorem wLa_T {a : Nat} {h g : qa_M} (e : qfr (wTs a) h g) : qfr (wLa a) h g := by
  refine qfr_sub ?_ e
  unfold wTs
  exact qsub_c (by simp [wLa]) (qsub_c (by simp [wLa]) (qsub_c (by simp [wLa]) (qsub_c (by simp [wLa]) (qsub_c (by simp [wLa]) (qsub_c (by simp [wLa]) (qsub_c (by simp [wLa]) (qsub_c (by simp [wLa]) (qsub_d (by simp [wLa]) (qsub_c (by simp [wLa]) qsub_nil)))))))))
theorem wLa_n {a : Nat} {h g : qa_M} (e : qfr wTn h g) : qfr (wLa a) h g := by
  refine qfr_sub ?_ e
  unfold wTn
  exact qsub_c (by simp [wLa]) (qsub_c (by simp [wLa]) (qsub_c (by simp [wLa]) (qsub_c (by simp [wLa]) (qsub_c (by simp [wLa]) (qsub_c (by simp [wLa]) qsub_nil)))))
/-- a number taken on the way -/
theorem k_tkQ {H : qa_M} {a : Nat} {B : Nat → Nat} {n p lo hi : Nat} {E : Cd} {c : Nat} {Cs : List LCl} {h : qa_M} {α : Type} {K : Int32 → qa_M → Option α} {P : α → Prop} (hA : qLaw a) (lq : LQ H a B n p E c Cs h) (hp : p ≤ n) (hlo : lo < 2147483648) (h9 : hi ≤ 99999)
    (h0 : ∀ f g, pNum B n p lo hi = .inl f → g.1 1 7 = nn f → qfr (wLa a) H g → qW (K 0 g) P)
    (h1 : ∀ v e g, pNum B n p lo hi = .inr (v, e) → g.1 1 6 = nn v → LQ H a B n e E c Cs g → qW (K 1 g) P) : qW (qbn (m_X9_takeNumber (nn lo) (nn hi) h) K) P := by
  have h83 := qLaw_g hA
  obtain ⟨⟨t, tk, f0, m, h2, h21⟩, cl, fr⟩ := lq
  rw [qW_bn]
  refine qW_fr (k_take t tk f0 hlo h9) (fun z e => fr_X9_takeNumber _ _ _ e) ?_
  rintro ⟨x, g⟩ hz fx
  have f1 : qfr wTn h g := fx
  have w : ∀ b j, 2 ≤ b → inW wTn b j = false := fun b j hb => by unfold wTn inW; simp; omega
  rw [pNum_sk] at hz
  cases q : pNum B n p lo hi with
  | inl k => rw [q] at hz; obtain ⟨z1, z2⟩ := hz; have z1 : x = 0 := z1; subst z1; exact h0 k g q z2 (qfr_tr fr (wLa_n f1))
  | inr v =>
    obtain ⟨v, e⟩ := v
    rw [q] at hz
    obtain ⟨z1, z2, z3, z4⟩ := hz
    have z1 : x = 1 := z1
    subst z1
    exact h1 v e g q z2 ⟨⟨TpC_fr t f1 rfl (fun j => rfl), z3, z4, CM_fr m f1 (w _ _ (by omega)) (fun j => w _ _ (by omega)), by rw [(f1.1 21 2 rfl).1]; exact h2, by rw [(f1.1 21 1 rfl).2.2]; exact h21⟩, CLp_fr cl f1 (w _ _ (by omega)) (w _ _ (by omega)) (fun b j h1 h2 => w _ _ (by omega)), qfr_tr fr (wLa_n f1)⟩
def LQP (H : qa_M) (a : Nat) (B : Nat → Nat) (n : Nat) (Cs : List LCl) (r : Nat ⊕ (LCl × Nat × Cd × Nat)) (z : Int32 × qa_M) : Prop := match r with
  | .inl f => LQE H a f z
  | .inr r => z.1 = 1 ∧ LQ H a B n r.2.1 r.2.2.1 r.2.2.2 (Cs ++ [r.1]) z.2
theorem CLp_len {Cs : List LCl} {i : Nat} (h : i < Cs.length) : (bb Cs i = false → cnt (ab Cs) i < cnt (ab Cs) Cs.length) ∧ (bb Cs i = true → cnt (bb Cs) i < cnt (bb Cs) Cs.length) := by
  refine ⟨fun q => ?_, fun q => ?_⟩
  · have := cnt_mono (p := ab Cs) (show i + 1 ≤ Cs.length by omega)
    have e := cnt_t (p := ab Cs) (n := i) (by unfold ab; rw [q]; rfl)
    omega
  · have := cnt_mono (p := bb Cs) (show i + 1 ≤ Cs.length by omega)
    have e := cnt_t (p := bb Cs) (n := i) q
    omega
theorem k_readApart {H : qa_M} {a : Nat} {B : Nat → Nat} {n p : Nat} {E : Cd} {c : Nat} {Cs : List LCl} {h : qa_M} (hA : qLaw a) (lq : LQ H a B n p E c Cs h) (hp : p ≤ n) (h12 : Cs.length < 12) :
    qW (m_X6_readApart h) (LQP H a B n Cs (pBd (pNum B n p 0 3) (fun a => pBd (pNum B n a.2 0 3) (fun b => pBd (pNum B n b.2 1 5) (fun d => .inr ((a.1, b.1, d.1, E.length, E.length, false), d.2, E, c)))))) := by
  have h83 := qLaw_g hA
  unfold m_X6_readApart
  refine k_tkQ (lo := 0) (hi := 3) hA lq hp (by omega) (by omega) ?_ ?_
  · intro f g q e7 fr
    rw [if_pos rfl, qW_some]
    simp only [pBd, q]
    exact ⟨⟨rfl, e7⟩, fr⟩
  · intro v1 e1 g1 q1 z1 lq1
    have o1 := pNum_ok q1 hp
    rw [if_neg (by decide), z1, qbd_e]
    refine k_tkQ (lo := 0) (hi := 3) hA lq1 (by omega) (by omega) (by omega) ?_ ?_
    · intro f g q e7 fr
      rw [if_pos rfl, qW_some]
      simp only [pBd, q1, q]
      exact ⟨⟨rfl, e7⟩, fr⟩
    · intro v2 e2 g2 q2 z2 lq2
      have o2 := pNum_ok q2 (show e1 ≤ n by omega)
      rw [if_neg (by decide), z2, qbd_e]
      refine k_tkQ (lo := 1) (hi := 5) hA lq2 (by omega) (by omega) (by omega) ?_ ?_
      · intro f g q e7 fr
        rw [if_pos rfl, qW_some]
        simp only [pBd, q1, q2, q]
        exact ⟨⟨rfl, e7⟩, fr⟩
      · intro v3 e3 g3 q3 z3 lq3
        obtain ⟨⟨t, tk, f0, m, h2, h21⟩, ⟨r1, r2, r3, r4⟩, fr⟩ := lq3
        have hcn : cnt (ab Cs) Cs.length < 12 := by have := cnt_le (p := ab Cs) (n := Cs.length); omega
        rw [if_neg (by decide), h21, qnn_s, qpr_t (by exact hA), z3]
        unfold m_X5_addApart
        rw [r1, if_neg (fun q => by rw [show (12 : Int32) = nn 12 from rfl, nn_le (by omega) (by omega)] at q; omega), qck_nn hcn (by omega), qbd_e, nn_cl (by omega), wI_ne (by omega), r1, qck_nn hcn (by omega), qbd_e, nn_cl (by omega), wI_ne (by omega), wI_ne (by omega), r1, qck_nn hcn (by omega), qbd_e, nn_cl (by omega), wI_ne (by omega), wI_ne (by omega), wI_ne (by omega), r1, nn_add1, qbd_e, qbv_s, qW_some]
        simp only [pBd, q1, q2, q3]
        obtain ⟨G, hG⟩ : ∃ G, G = qw_I (qw_I (qw_I (qw_I g3 (a + 1) (cnt (ab Cs) Cs.length) (nn v1)) (a + 2) (cnt (ab Cs) Cs.length) (nn v2)) (a + 3) (cnt (ab Cs) Cs.length) (nn v3)) a 0 (nn (cnt (ab Cs) Cs.length + 1)) := ⟨_, rfl⟩
        rw [← hG]
        have f1 : qfr [(a, 1), (a + 1, 0), (a + 2, 0), (a + 3, 0)] g3 G := by
          rw [hG]
          exact qfr_Ik rfl (by simp) (qfr_I0 rfl (by simp) (qfr_I0 rfl (by simp) (qfr_I0 rfl (by simp) qfr_rf)))
        have f2 : qfr (wLa a) g3 G := qfr_sub (qsub_d (by simp [wLa]) (qsub_c (by simp [wLa]) (qsub_c (by simp [wLa]) (qsub_c (by simp [wLa]) qsub_nil)))) f1
        have w : ∀ b j, b < a → inW [(a, 1), (a + 1, 0), (a + 2, 0), (a + 3, 0)] b j = false := fun b j hb => by unfold inW; simp; omega
        have bn : bb (Cs ++ [(v1, v2, v3, E.length, E.length, false)]) Cs.length = false := by unfold bb; rw [gc_new]
        refine ⟨rfl, ⟨TpC_fr t f1 (w _ _ (by omega)) (fun j => w _ _ (by omega)), TkC_fr tk f1 (w _ _ (by omega)) (w _ _ (by omega)) (w _ _ (by omega)) (w _ _ (by omega)), by rw [(f1.1 1 7 (w _ _ (by omega))).1]; exact f0, CM_fr m f1 (by unfold inW; simp) (fun j => by unfold inW; simp), by rw [(f1.1 21 2 (w _ _ (by omega))).1]; exact h2, by rw [(f1.1 21 1 (w _ _ (by omega))).2.2]; exact h21⟩, ⟨?_, ?_, fun i hi hb => ?_, fun i hi hb => ?_⟩, qfr_tr fr f2⟩
        · rw [hG, wI_at, List.length_append]
          show _ = nn (cnt _ (Cs.length + 1))
          rw [cnt_t (by unfold ab; rw [bn]; rfl), cnta_old (Nat.le_refl _)]
        · rw [(f1.1 a 4 (by unfold inW; simp)).1, r2, List.length_append]
          show _ = nn (cnt _ (Cs.length + 1))
          rw [cnt_f bn, cntb_old (Nat.le_refl _)]
        · rw [List.length_append] at hi
          have hi : i < Cs.length + 1 := hi
          by_cases ci : i = Cs.length
          · subst ci
            rw [gc_new, cnta_old (Nat.le_refl _), hG]
            refine ⟨?_, ?_, ?_⟩
            · rw [wI_ne (by omega), wI_ne (by omega), wI_ne (by omega), wI_at]
            · rw [wI_ne (by omega), wI_ne (by omega), wI_at]
            · rw [wI_ne (by omega), wI_at]
          · have hb2 : bb Cs i = false := by
              unfold bb at hb ⊢
              rw [gc_old (by omega)] at hb
              exact hb
            have hl := (CLp_len (i := i) (Cs := Cs) (by omega)).1 hb2
            rw [gc_old (by omega), cnta_old (by omega), hG]
            obtain ⟨s1, s2, s3⟩ := r3 i (by omega) hb2
            refine ⟨?_, ?_, ?_⟩
            · rw [wI_ne (by omega), wI_ne (by omega), wI_ne (by omega), wI_ne (by omega)]; exact s1
            · rw [wI_ne (by omega), wI_ne (by omega), wI_ne (by omega), wI_ne (by omega)]; exact s2
            · rw [wI_ne (by omega), wI_ne (by omega), wI_ne (by omega), wI_ne (by omega)]; exact s3
        · rw [List.length_append] at hi
          have hi : i < Cs.length + 1 := hi
          by_cases ci : i = Cs.length
          · subst ci
            rw [bn] at hb
            cases hb
          · have hb2 : bb Cs i = true := by
              unfold bb at hb ⊢
              rw [gc_old (by omega)] at hb
              exact hb
            rw [gc_old (by omega), cntb_old (by omega), hG]
            obtain ⟨s1, s2⟩ := r4 i (by omega) hb2
            refine ⟨?_, ?_⟩
            · rw [wI_ne (by omega), wI_ne (by omega), wI_ne (by omega), wI_ne (by omega)]; exact s1
            · rw [wI_ne (by omega), wI_ne (by omega), wI_ne (by omega), wI_ne (by omega)]; exact s2
theorem k_readBar {H : qa_M} {a : Nat} {B : Nat → Nat} {n p : Nat} {E : Cd} {c m : Nat} {U : List Bool} {Cs : List LCl} {h : qa_M} {P : (Int32 × qa_M) ⊕ (Int32 × qa_M) → Prop} {K : qa_M → Option ((Int32 × qa_M) ⊕ (Int32 × qa_M))} (hA : qLaw a) (g : GI n p E c U m) (lq : LQ H a B n p E c Cs h) (h12 : Cs.length < 12)
    (h0 : ∀ f g, pBd (pNum B n p 0 3) (fun a => pBd (pRec B n 31 true 0 a.2 E c) (fun r => .inr (((a.1, 0, 0, E.length, r.2.1.length, true) : LCl), r.1, r.2.1, r.2.2))) = .inl f → g.1 1 7 = nn f → qfr (wLa a) H g → P (.inr (nn f, g)))
    (h1 : ∀ r g, pBd (pNum B n p 0 3) (fun a => pBd (pRec B n 31 true 0 a.2 E c) (fun r => .inr (((a.1, 0, 0, E.length, r.2.1.length, true) : LCl), r.1, r.2.1, r.2.2))) = .inr r → LQ H a B n r.2.1 r.2.2.1 r.2.2.2 (Cs ++ [r.1]) g → qW (K g) P) :
    qW (qbn (m_X6_readBarred h) (fun (c109 : Int32) (h109 : qa_M) => if c109 = 0 then qup (f_X6_read_b123 a h109) else qbn (m_X6_readTest (0 : Int32) h109) (fun (c117 : Int32) (h117 : qa_M) => if c117 = 0 then qup (f_X6_read_b123 a h117) else K h117))) P := by
  have h83 := qLaw_g hA
  have hp := g.2.2.2.2.2.1
  unfold m_X6_readBarred
  rw [qW_bn]
  refine k_tkQ (lo := 0) (hi := 3) hA lq hp (by omega) (by omega) ?_ ?_
  · intro f g1 q e7 fr
    rw [if_pos rfl, qW_some]
    dsimp only
    unfold f_X6_read_b123
    rw [if_pos rfl, qup_s, qW_some, e7]
    exact h0 f g1 (by simp only [pBd, q]) e7 fr
  · intro v e g1 q z1 lq1
    have ok := pNum_ok q hp
    obtain ⟨⟨t, tk, f0, mm, h2, h21⟩, ⟨r1, r2, r3, r4⟩, fr⟩ := lq1
    have hcn : cnt (bb Cs) Cs.length < 12 := by have := cnt_le (p := bb Cs) (n := Cs.length); omega
    rw [if_neg (by decide), h21, qnn_s, qpr_t (by exact hA), z1]
    unfold m_X5_beginBar
    rw [r2, if_neg (fun q => by rw [show (12 : Int32) = nn 12 from rfl, nn_le (by omega) (by omega)] at q; omega), qck_nn hcn (by omega), qbd_e, nn_cl (by omega), wI_ne (by omega), r2, qck_nn (by omega) (by omega), qbd_e, nn_cl (by omega), wI_ne (by omega), mm.1, wI_ne (by omega), wI_ne (by omega), r2, nn_add1, qbd_e, qbv_s, qW_some]
    dsimp only
    rw [if_neg (by decide)]
    obtain ⟨G, hG⟩ : ∃ G, G = qw_I (qw_I (qw_I g1 (a + 4) (cnt (bb Cs) Cs.length) (nn v)) (a + 5) (cnt (bb Cs) Cs.length) (nn E.length)) a 4 (nn (cnt (bb Cs) Cs.length + 1)) := ⟨_, rfl⟩
    rw [← hG]
    have f1 : qfr [(a, 5), (a + 4, 0), (a + 5, 0)] g1 G := by
      rw [hG]
      exact qfr_Ik rfl (by simp) (qfr_I0 rfl (by simp) (qfr_I0 rfl (by simp) qfr_rf))
    have f2 : qfr (wLa a) g1 G := qfr_sub (qsub_d (by simp [wLa]) (qsub_c (by simp [wLa]) (qsub_c (by simp [wLa]) qsub_nil))) f1
    have w : ∀ b j, b < a → inW [(a, 5), (a + 4, 0), (a + 5, 0)] b j = false := fun b j hb => by unfold inW; simp; omega
    have lcG : LC a B n e E c G := ⟨TpC_fr t f1 (w _ _ (by omega)) (fun j => w _ _ (by omega)), TkC_fr tk f1 (w _ _ (by omega)) (w _ _ (by omega)) (w _ _ (by omega)) (w _ _ (by omega)), by rw [(f1.1 1 7 (w _ _ (by omega))).1]; exact f0, CM_fr mm f1 (by unfold inW; simp) (fun j => by unfold inW; simp), by rw [(f1.1 21 2 (w _ _ (by omega))).1]; exact h2, by rw [(f1.1 21 1 (w _ _ (by omega))).2.2]; exact h21⟩
    have g0 := g.up (p2 := e) (by omega) (by omega)
    rw [qW_bn]
    refine qW_fr (k_readTest hA g0 lcG) (fun z e => gr_X6_rec hA 31 true 0 G lcG.2.2.2.2.2 e) ?_
    rintro ⟨x, g2⟩ hz ft
    have ft : qfr (wTs a) G g2 := ft
    have frz : qfr (wLa a) H g2 := qfr_tr fr (qfr_tr f2 (wLa_T ft))
    cases q2 : pRec B n 31 true 0 e E c with
    | inl f =>
      rw [q2] at hz
      obtain ⟨y1, y2⟩ := hz
      have y1 : x = 0 := y1
      have y2 : g2.1 1 7 = nn f := y2
      subst y1
      unfold f_X6_read_b123
      rw [if_pos rfl, qup_s, qW_some]
      show P (.inr (g2.1 1 7, g2))
      rw [y2]
      exact h0 f g2 (by simp only [pBd, q, q2]) y2 frz
    | inr r =>
      rw [q2] at hz
      obtain ⟨y1, lc2⟩ := hz
      have y1 : x = 1 := y1
      subst y1
      dsimp only
      have lc2 : LC a B n r.1 r.2.1 r.2.2 g2 := lc2
      rw [if_neg (by decide)]
      refine h1 ((v, 0, 0, E.length, r.2.1.length, true), r.1, r.2.1, r.2.2) g2 (by simp only [pBd, q, q2]) ⟨lc2, ?_, frz⟩
      have wt : ∀ b j, a + 1 ≤ b → b ≤ a + 5 → inW (wTs a) b j = false := fun b j h1 h2 => by unfold wTs inW; simp; omega
      have bn : bb (Cs ++ [(v, 0, 0, E.length, r.2.1.length, true)]) Cs.length = true := by unfold bb; rw [gc_new]
      refine CLp_fr ?_ ft (by unfold wTs inW; simp <;> omega) (by unfold wTs inW; simp <;> omega) wt
      refine ⟨?_, ?_, fun i hi hb => ?_, fun i hi hb => ?_⟩
      · rw [(f1.1 a 0 (by unfold inW; simp)).1, r1, List.length_append]
        show _ = nn (cnt _ (Cs.length + 1))
        rw [cnt_f (by unfold ab; rw [bn]; rfl), cnta_old (Nat.le_refl _)]
      · rw [hG, wI_at, List.length_append]
        show _ = nn (cnt _ (Cs.length + 1))
        rw [cnt_t bn, cntb_old (Nat.le_refl _)]
      · rw [List.length_append] at hi
        have hi : i < Cs.length + 1 := hi
        by_cases ci : i = Cs.length
        · subst ci
          rw [bn] at hb
          cases hb
        · have hb2 : bb Cs i = false := by
            unfold bb at hb ⊢
            rw [gc_old (by omega)] at hb
            exact hb
          rw [gc_old (by omega), cnta_old (by omega), hG]
          obtain ⟨s1, s2, s3⟩ := r3 i (by omega) hb2
          refine ⟨?_, ?_, ?_⟩
          · rw [wI_ne (by omega), wI_ne (by omega), wI_ne (by omega)]; exact s1
          · rw [wI_ne (by omega), wI_ne (by omega), wI_ne (by omega)]; exact s2
          · rw [wI_ne (by omega), wI_ne (by omega), wI_ne (by omega)]; exact s3
      · rw [List.length_append] at hi
        have hi : i < Cs.length + 1 := hi
        by_cases ci : i = Cs.length
        · subst ci
          rw [gc_new, cntb_old (Nat.le_refl _), hG]
          refine ⟨?_, ?_⟩
          · rw [wI_ne (by omega), wI_ne (by omega), wI_at]
          · rw [wI_ne (by omega), wI_at]
        · have hb2 : bb Cs i = true := by
            unfold bb at hb ⊢
            rw [gc_old (by omega)] at hb
            exact hb
          have hl := (CLp_len (i := i) (Cs := Cs) (by omega)).2 hb2
          rw [gc_old (by omega), cntb_old (by omega), hG]
          obtain ⟨s1, s2⟩ := r4 i (by omega) hb2
          refine ⟨?_, ?_⟩
          · rw [wI_ne (by omega), wI_ne (by omega), wI_ne (by omega)]; exact s1
          · rw [wI_ne (by omega), wI_ne (by omega), wI_ne (by omega)]; exact s2
