/-! BOTH SIDES, ONE CALL AFTER THE OTHER: the rest -/
theorem J_sees {v : Nat} {h : qa_M} {x : Int32} (iv : Inv v h) : qW (m_X11_sees x h) (fun z => qW (m_X12_sees x z.2) (fun y => z.1 = y.1 ∧ Inv (v + 1) y.2)) := by
  obtain ⟨nl, B, n, I, w, hw, ir, ic⟩ := iv
  rw [k_sees ir.wf ic.1.rs.1, qW_some]
  show qW (m_X12_sees x h) _
  rw [r_sees ir.wf, qW_some]
  exact ⟨rfl, nl, B, n, I, w, by omega, ir, ic⟩
theorem J_hidden {v : Nat} {h : qa_M} (iv : Inv v h) : qW (m_X11_hidden h) (fun z => qW (m_X12_hidden z.2) (fun y => z.1 = y.1 ∧ Inv (v + 1) y.2)) := by
  obtain ⟨nl, B, n, I, w, hw, ir, ic⟩ := iv
  rw [k_hidden ir.wf ic.1.rs.1, qW_some]
  show qW (m_X12_hidden h) _
  rw [r_hidden ir.wf, qW_some]
  exact ⟨rfl, nl, B, n, I, w, by omega, ir, ic⟩
theorem J_notes {v : Nat} {h : qa_M} {x y : Int32} (iv : Inv v h) : qW (m_X11_notes x y h) (fun z => qW (m_X12_notes x y z.2) (fun y => z.1 = y.1 ∧ Inv (v + 1) y.2)) := by
  obtain ⟨nl, B, n, I, w, hw, ir, ic⟩ := iv
  rw [k_aNotes ir.wf ic.1.rs, qW_some]
  show qW (m_X12_notes x y h) _
  rw [r_aNotes ir.wf, qW_some]
  exact ⟨rfl, nl, B, n, I, w, by omega, ir, ic⟩
theorem J_count {v : Nat} {h : qa_M} {x : Int32} (iv : Inv v h) : qW (m_X11_count x h) (fun z => qW (m_X12_count x z.2) (fun y => z.1 = y.1 ∧ Inv (v + 1) y.2)) := by
  obtain ⟨nl, B, n, I, w, hw, ir, ic⟩ := iv
  rw [k_aCount ic.1, qW_some]
  show qW (m_X12_count x h) _
  rw [r_aCount ir, qW_some]
  exact ⟨rfl, nl, B, n, I, w, by omega, ir, ic⟩
def FC (g y : qa_M) : Prop := ∃ W, qfr W g y ∧ ∀ b j, b < 119 ∨ b = 167 → inW W b j = false
theorem FC_mk {W : List (Nat × Nat)} {g y : qa_M} (f : qfr W g y) (w : ∀ b j, b < 119 ∨ b = 167 → inW W b j = false) : FC g y := ⟨W, f, w⟩
theorem IvC.fc {s : Sg} {L : Nat → Lw} {nl : Nat} {B : Nat → Nat} {n : Nat} {I : Nat → Option qa_M} {v : Nat} {g y : qa_M} (i : IvC s L nl B n I v g) (a : AL s L nl) (f : FC g y) : IvC s L nl B n I v y := by
  obtain ⟨W, f, w⟩ := f
  exact i.fr a f (fun b j q => w b j (by unfold kpP kpV at q; omega))
theorem J_walk {v : Nat} {h : qa_M} {x y : Int32} (iv : Inv v h) : qW (m_X11_walk x y h) (fun z => qW (m_X12_walk x y z.2) (fun y => z.1 = y.1 ∧ Inv (v + 1) y.2)) := by
  obtain ⟨nl, B, n, I, w, hw, ir, ic⟩ := iv
  refine qW_fr (k_aWalk (x := x) (y := y) ir.al ic) (fun z e => fr_X11_walk _ _ _ e) ?_
  rintro ⟨z, g⟩ ⟨ez, ig⟩ f
  have f : qfr w_X11_walk h g := f
  have sm : SmR h g := SmR_fr f (fun b j h1 h2 => by unfold w_X11_walk inW; simp; omega)
  have es := SmR_sg sm
  have el := SmR_lw sm
  have rg := ir.sm sm
  refine qW_fr (r_aWalk (x := x) (y := y) rg.wf) (fun z e => fr_X12_walk _ _ _ e) ?_
  rintro ⟨r, k⟩ er f2
  have f2 : qfr w_X12_walk g k := f2
  obtain ⟨rk, lk, sk⟩ := rg.same f2 (fun b j q => by unfold kpR at q; unfold w_X12_walk inW; simp; omega)
  refine ⟨wk_same ir.wf ez (by rw [← es]; exact er), nl, B, n, I, w, by omega, rk, ?_⟩
  rw [sk, lk, es, el]
  exact IvC.fc ig ir.al (FC_mk f2 (fun b j q => by unfold w_X12_walk inW; simp; omega))
theorem J_s {fC fR : qa_M → Option (Int32 × qa_M)} {ans : Int32} {s' : Sg} {nl : Nat} {B B' : Nat → Nat} {n n' : Nat} {I I' : Nat → Option qa_M} {v w : Nat} {h : qa_M} (hw : w ≤ v) (ir : IvR nl B n I h)
    (hC : qW (fC h) (fun z => (z.1 = ans ∧ ∃ v2, v2 ≤ w + 1 ∧ IvC s' (lw h) nl B' n' I' v2 z.2) ∧ SmR h z.2))
    (hR : ∀ g, IvR nl B n I g → sg g = sg h → lw g = lw h → SmR h g → qW (fR g) (fun y => (y.1 = ans ∧ IvR nl B' n' I' y.2 ∧ lw y.2 = lw h ∧ sg y.2 = s') ∧ FC g y.2)) :
    qW (fC h) (fun z => qW (fR z.2) (fun y => z.1 = y.1 ∧ Inv (v + 1) y.2)) := by
  refine qW_mono hC ?_
  rintro ⟨x, g⟩ ⟨⟨ex, v2, hv2, ig⟩, sm⟩
  have sm : SmR h g := sm
  refine qW_mono (hR g (ir.sm sm) (SmR_sg sm) (SmR_lw sm) sm) ?_
  rintro ⟨y, k⟩ ⟨⟨ey, rk, lk, sk⟩, f⟩
  have rk : IvR nl B' n' I' k := rk
  have lk : lw k = lw h := lk
  have sk : sg k = s' := sk
  have ak := rk.al
  rw [lk, sk] at ak
  refine ⟨(show x = ans from ex).trans (show y = ans from ey).symm, nl, B', n', I', v2, by omega, rk, ?_⟩
  rw [lk, sk]
  exact IvC.fc ig ak f
theorem J_feed {v : Nat} {h : qa_M} {x1 x2 x3 x4 x5 : Int32} (iv : Inv v h) : qW (m_X11_feed x1 x2 x3 x4 x5 h) (fun z => qW (m_X12_feed x1 x2 x3 x4 x5 z.2) (fun y => z.1 = y.1 ∧ Inv (v + 1) y.2)) := by
  obtain ⟨nl, B, n, I, w, hw, ir, ic⟩ := iv
  refine J_s (fC := m_X11_feed x1 x2 x3 x4 x5) (fR := m_X12_feed x1 x2 x3 x4 x5) (s' := sg h) hw ir (qW_fr (k_aFd ir.al ic) (fun z e => fr_X11_feed _ _ _ _ _ _ e) (fun z hz f => ⟨⟨hz.1, w, by omega, hz.2⟩, SmR_fr f (fun b j h1 h2 => by unfold w_X11_feed inW; simp; omega)⟩)) (fun g rg es el sm => ?_)
  exact qW_fr (r_aFd rg) (fun z e => fr_X12_feed _ _ _ _ _ _ e) (fun z hz f => ⟨⟨hz.1, hz.2.1, hz.2.2.1.trans el, hz.2.2.2.trans es⟩, FC_mk f (fun b j q => by unfold w_X12_feed inW; simp; omega)⟩)
theorem J_end {v : Nat} {h : qa_M} {x : Int32} (iv : Inv v h) : qW (m_X11_end x h) (fun z => qW (m_X12_end x z.2) (fun y => z.1 = y.1 ∧ Inv (v + 1) y.2)) := by
  obtain ⟨nl, B, n, I, w, hw, ir, ic⟩ := iv
  refine J_s (fC := m_X11_end x) (fR := m_X12_end x) (s' := sg h) hw ir (qW_fr (k_aEnd ir.al ic) (fun z e => fr_X11_end _ _ e) (fun z hz f => ⟨⟨hz.1, w, by omega, hz.2⟩, SmR_fr f (fun b j h1 h2 => by unfold w_X11_end inW; simp; omega)⟩)) (fun g rg es el sm => ?_)
  exact qW_fr (r_aEnd rg) (fun z e => fr_X12_end _ _ e) (fun z hz f => ⟨⟨hz.1, hz.2.1, hz.2.2.1.trans el, hz.2.2.2.trans es⟩, FC_mk f (fun b j q => by unfold w_X12_end inW; simp; omega)⟩)
theorem J_stands {v : Nat} {h : qa_M} {x : Int32} (iv : Inv v h) (hv : v + 1 < 2147483648) : qW (m_X11_stands x h) (fun z => qW (m_X12_stands x z.2) (fun y => z.1 = y.1 ∧ Inv (v + 1) y.2)) := by
  obtain ⟨nl, B, n, I, w, hw, ir, ic⟩ := iv
  refine J_s (fC := m_X11_stands x) (fR := m_X12_stands x) hw ir (qW_fr (k_aSd ir.al ic (by omega)) (fun z e => fr_X11_stands _ _ e) (fun z hz f => ⟨hz, SmR_fr f (fun b j h1 h2 => by unfold w_X11_stands inW; simp; omega)⟩)) (fun g rg es el sm => ?_)
  exact qW_fr (r_aSd rg) (fun z e => fr_X12_stands _ _ e) (fun z hz f => ⟨⟨by rw [← es]; exact hz.1, hz.2.1, hz.2.2.1.trans el, by rw [← es]; exact hz.2.2.2⟩, FC_mk f (fun b j q => by unfold w_X12_stands inW; simp; omega)⟩)
theorem J_note {v : Nat} {h : qa_M} {x1 x2 x3 x4 x5 : Int32} (iv : Inv v h) (hv : v + 1 < 2147483648) : qW (m_X11_note x1 x2 x3 x4 x5 h) (fun z => qW (m_X12_note x1 x2 x3 x4 x5 z.2) (fun y => z.1 = y.1 ∧ Inv (v + 1) y.2)) := by
  obtain ⟨nl, B, n, I, w, hw, ir, ic⟩ := iv
  refine J_s (fC := m_X11_note x1 x2 x3 x4 x5) (fR := m_X12_note x1 x2 x3 x4 x5) hw ir (qW_fr (k_aNt ir.al ic (by omega)) (fun z e => fr_X11_note _ _ _ _ _ _ e) (fun z hz f => ⟨hz, SmR_fr f (fun b j h1 h2 => by unfold w_X11_note inW; simp; omega)⟩)) (fun g rg es el sm => ?_)
  exact qW_fr (r_aNt rg) (fun z e => fr_X12_note _ _ _ _ _ _ e) (fun z hz f => ⟨⟨by rw [← es]; exact hz.1, hz.2.1, hz.2.2.1.trans el, by rw [← es]; exact hz.2.2.2⟩, FC_mk f (fun b j q => by unfold w_X12_note inW; simp; omega)⟩)
theorem J_seed {v : Nat} {h : qa_M} {x : Int32} (iv : Inv v h) : qW (m_X11_seed x h) (fun z => qW (m_X12_seed x z.2) (fun y => z.1 = y.1 ∧ Inv (v + 1) y.2)) := by
  obtain ⟨nl, B, n, I, w, hw, ir, ic⟩ := iv
  refine J_s (fC := m_X11_seed x) (fR := m_X12_seed x) hw ir (qW_fr (k_aSeed ir.al ic) (fun z e => fr_X11_seed _ _ e) (fun z hz f => ⟨⟨hz.1, w, by omega, hz.2⟩, SmR_fr f (fun b j h1 h2 => by unfold w_X11_seed inW; simp; omega)⟩)) (fun g rg es el sm => ?_)
  exact qW_fr (r_aSeed rg) (fun z e => fr_X12_seed _ _ e) (fun z hz f => ⟨⟨by rw [← es]; exact hz.1, hz.2.1, hz.2.2.1.trans el, by rw [← es]; exact hz.2.2.2⟩, FC_mk f (fun b j q => by unfold w_X12_seed inW; simp; omega)⟩)
theorem J_drawn {v : Nat} {h : qa_M} {x : Int32} (iv : Inv v h) (hv : v + 1 < 2147483648) : qW (m_X11_drawn x h) (fun z => qW (m_X12_drawn x z.2) (fun y => z.1 = y.1 ∧ Inv (v + 1) y.2)) := by
  obtain ⟨nl, B, n, I, w, hw, ir, ic⟩ := iv
  refine J_s (fC := m_X11_drawn x) (fR := m_X12_drawn x) hw ir (qW_fr (k_aDraw ir.al ic (by omega)) (fun z e => fr_X11_drawn _ _ e) (fun z hz f => ⟨⟨hz.1, w, by omega, hz.2⟩, SmR_fr f (fun b j h1 h2 => by unfold w_X11_drawn inW; simp; omega)⟩)) (fun g rg es el sm => ?_)
  exact qW_fr (r_aDraw rg) (fun z e => fr_X12_drawn _ _ e) (fun z hz f => ⟨⟨by rw [← es, ← el]; exact hz.1, hz.2.1, hz.2.2.1.trans el, by rw [← es, ← el]; exact hz.2.2.2⟩, FC_mk f (fun b j q => by unfold w_X12_drawn inW; simp; omega)⟩)
theorem J_back {v : Nat} {h : qa_M} {x : Int32} (iv : Inv v h) (hv : v + 1 < 2147483648) : qW (m_X11_back x h) (fun z => qW (m_X12_back x z.2) (fun y => z.1 = y.1 ∧ Inv (v + 1) y.2)) := by
  obtain ⟨nl, B, n, I, w, hw, ir, ic⟩ := iv
  refine J_s (fC := m_X11_back x) (fR := m_X12_back x) hw ir (qW_fr (k_aBk ir.al ic (by omega) (fun k h0 hk q => by have := ir.im k hk; rw [q] at this; exact this.2.1)) (fun z e => fr_X11_back _ _ e) (fun z hz f => ⟨hz, SmR_fr f (fun b j h1 h2 => by unfold w_X11_back inW; simp; omega)⟩)) (fun g rg es el sm => ?_)
  exact qW_fr (r_aBk rg) (fun z e => fr_X12_back _ _ e) (fun z hz f => ⟨⟨hz.1, hz.2.1, hz.2.2.1.trans el, by rw [← es]; exact hz.2.2.2⟩, FC_mk f (fun b j q => by unfold w_X12_back inW; simp; omega)⟩)
