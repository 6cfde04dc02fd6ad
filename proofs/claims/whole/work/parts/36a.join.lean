/-! BOTH SIDES, ONE CALL AFTER THE OTHER (queries; by program: gen/joinq.py) -/
def Inv (v : Nat) (h : qa_M) : Prop := ∃ nl B n I w, w ≤ v ∧ IvR nl B n I h ∧ IvC (sg h) (lw h) nl B n I w h
def kpX (b j : Nat) : Prop := kpR b j ∨ (120 ≤ b ∧ b ≤ 131) ∨ b < 119 ∨ b = 167
def FR (g y : qa_M) : Prop := ∃ W, qfr W g y ∧ ∀ b j, kpX b j → inW W b j = false
theorem SmR_sg {h g : qa_M} (s : SmR h g) : sg g = sg h := by
  funext i j
  by_cases c : i < 12
  · rw [sg_row c, sg_row c]; exact (s _ _ (by omega) (by omega)).1
  · rw [sg_big (by omega), sg_big (by omega)]
theorem SmR_lw {h g : qa_M} (s : SmR h g) : lw g = lw h := by
  funext k i j
  unfold lw
  split <;> exact (s _ _ (by omega) (by omega)).1
theorem IvR.sm {nl : Nat} {B : Nat → Nat} {n : Nat} {I : Nat → Option qa_M} {h g : qa_M} (i : IvR nl B n I h) (s : SmR h g) : IvR nl B n I g := by
  have es := SmR_sg s
  have el := SmR_lw s
  have c : ∀ b j, 119 ≤ b → b ≤ 166 → g.1 b j = h.1 b j := fun b j h1 h2 => (s b j h1 h2).1
  refine ⟨by rw [es]; exact i.wf, fun a j h1 h2 => (c _ _ (by omega) (by omega)).trans (i.ob a j h1 h2), ⟨(c _ _ (by omega) (by omega)).trans i.tp.1, i.tp.2.1, fun j hj => ⟨(i.tp.2.2 j hj).1, (c _ _ (by omega) (by omega)).trans (i.tp.2.2 j hj).2⟩⟩, (c _ _ (by omega) (by omega)).trans i.nl, i.n4, by rw [es]; exact i.gl, fun k hk => by rw [el]; exact i.wl k hk, (c _ _ (by omega) (by omega)).trans i.s7, fun k hk => ?_⟩
  have im := i.im k hk
  cases q : I k with
  | none => rw [q] at im; exact (c 166 k (by omega) (by omega)).trans im
  | some h0 => rw [q] at im; exact ⟨(c 166 k (by omega) (by omega)).trans im.1, im.2.1, im.2.2.1, im.2.2.2.1, fun a j h1 h2 => (c 165 _ (by omega) (by omega)).trans (im.2.2.2.2 a j h1 h2)⟩
theorem J_q {α : Type} {fC fR : qa_M → Option (α × qa_M)} {A : Sg → (Nat → Lw) → α} {v : Nat} {h : qa_M} (iv : Inv v h) (hv : v + 1 < 2147483648)
    (hC : ∀ nl B n I w, AL (sg h) (lw h) nl → IvC (sg h) (lw h) nl B n I w h → w < 2147483648 → qW (fC h) (fun z => (z.1 = A (sg h) (lw h) ∧ IvC (sg h) (lw h) nl B n I w z.2) ∧ SmR h z.2))
    (hR : ∀ g, WF (sg g) → (∀ k, k + 1 = gL (sg g) → WL (lw g k)) → qW (fR g) (fun y => y.1 = A (sg g) (lw g) ∧ FR g y.2)) :
    qW (fC h) (fun z => qW (fR z.2) (fun y => z.1 = y.1 ∧ Inv (v + 1) y.2)) := by
  obtain ⟨nl, B, n, I, w, hw, ir, ic⟩ := iv
  refine qW_mono (hC nl B n I w ir.al ic (by omega)) ?_
  rintro ⟨x, g⟩ ⟨⟨ex, ig⟩, sm⟩
  have ig : IvC (sg h) (lw h) nl B n I w g := ig
  have sm : SmR h g := sm
  have es := SmR_sg sm
  have el := SmR_lw sm
  have rg := ir.sm sm
  refine qW_mono (hR g rg.wf rg.al.w1) ?_
  rintro ⟨y, k⟩ ⟨ey, W, f, hW⟩
  have f : qfr W g k := f
  obtain ⟨rk, lk, sk⟩ := rg.same f (fun b j q => hW b j (by unfold kpX; rcases q with q | q; exact .inl q; exact .inr (.inl q)))
  refine ⟨?_, nl, B, n, I, w, by omega, rk, ?_⟩
  · have ex : x = _ := ex
    have ey : y = _ := ey
    rw [es, el] at ey
    exact ex.trans ey.symm
  · rw [sk, lk, es, el]
    exact ig.fr ir.al f (fun b j q => hW b j (by unfold kpX; unfold kpP kpV at q; omega))
theorem J_layings {v : Nat} {h : qa_M} {x1 : Int32} (iv : Inv v h) (hv : v + 1 < 2147483648) : qW (m_X11_layings x1 h) (fun z => qW (m_X12_layings x1 z.2) (fun y => z.1 = y.1 ∧ Inv (v + 1) y.2)) := by
  refine J_q (fC := m_X11_layings x1) (fR := m_X12_layings x1) (A := fun s L => aLays s L x1) iv hv (fun nl B n I w a i hw => ?_) (fun g wg lg => ?_)
  · exact qW_fr (k_aLays a i hw) (fun z e => fr_X11_layings _ _ e) (fun z hz f => ⟨hz, SmR_fr f (fun b j h1 h2 => by unfold w_X11_layings inW; simp; omega)⟩)
  · exact qW_fr (r_aLays wg lg) (fun z e => fr_X12_layings _ _ e) (fun z hz f => ⟨hz, w_X12_layings, f, fun b j q => by unfold kpX kpR at q; unfold w_X12_layings inW; simp; omega⟩)
theorem J_laying {v : Nat} {h : qa_M} {x1 x2 x3 : Int32} (iv : Inv v h) (hv : v + 1 < 2147483648) : qW (m_X11_laying x1 x2 x3 h) (fun z => qW (m_X12_laying x1 x2 x3 z.2) (fun y => z.1 = y.1 ∧ Inv (v + 1) y.2)) := by
  refine J_q (fC := m_X11_laying x1 x2 x3) (fR := m_X12_laying x1 x2 x3) (A := fun s L => aLay s L x1 x2 x3) iv hv (fun nl B n I w a i hw => ?_) (fun g wg lg => ?_)
  · exact qW_fr (k_aLay a i hw) (fun z e => fr_X11_laying _ _ _ _ e) (fun z hz f => ⟨hz, SmR_fr f (fun b j h1 h2 => by unfold w_X11_laying inW; simp; omega)⟩)
  · exact qW_fr (r_aLay wg lg) (fun z e => fr_X12_laying _ _ _ _ e) (fun z hz f => ⟨hz, w_X12_laying, f, fun b j q => by unfold kpX kpR at q; unfold w_X12_laying inW; simp; omega⟩)
theorem J_may {v : Nat} {h : qa_M} {x1 x2 x3 x4 : Int32} (iv : Inv v h) (hv : v + 1 < 2147483648) : qW (m_X11_may x1 x2 x3 x4 h) (fun z => qW (m_X12_may x1 x2 x3 x4 z.2) (fun y => z.1 = y.1 ∧ Inv (v + 1) y.2)) := by
  refine J_q (fC := m_X11_may x1 x2 x3 x4) (fR := m_X12_may x1 x2 x3 x4) (A := fun s L => aMay s L x1 x2 x3 x4) iv hv (fun nl B n I w a i hw => ?_) (fun g wg lg => ?_)
  · exact qW_fr (k_aMay a i hw) (fun z e => fr_X11_may _ _ _ _ _ e) (fun z hz f => ⟨hz, SmR_fr f (fun b j h1 h2 => by unfold w_X11_may inW; simp; omega)⟩)
  · exact qW_fr (r_aMay wg lg) (fun z e => fr_X12_may _ _ _ _ _ e) (fun z hz f => ⟨hz, w_X12_may, f, fun b j q => by unfold kpX kpR at q; unfold w_X12_may inW; simp; omega⟩)
theorem J_odds {v : Nat} {h : qa_M} {x1 x2 x3 x4 x5 : Int32} (iv : Inv v h) (hv : v + 1 < 2147483648) : qW (m_X11_odds x1 x2 x3 x4 x5 h) (fun z => qW (m_X12_odds x1 x2 x3 x4 x5 z.2) (fun y => z.1 = y.1 ∧ Inv (v + 1) y.2)) := by
  refine J_q (fC := m_X11_odds x1 x2 x3 x4 x5) (fR := m_X12_odds x1 x2 x3 x4 x5) (A := fun s L => aOdds s L x1 x2 x3 x4 x5) iv hv (fun nl B n I w a i hw => ?_) (fun g wg lg => ?_)
  · exact qW_fr (k_aOdds a i hw) (fun z e => fr_X11_odds _ _ _ _ _ _ e) (fun z hz f => ⟨hz, SmR_fr f (fun b j h1 h2 => by unfold w_X11_odds inW; simp; omega)⟩)
  · exact qW_fr (r_aOdds wg lg) (fun z e => fr_X12_odds _ _ _ _ _ _ e) (fun z hz f => ⟨hz, w_X12_odds, f, fun b j q => by unfold kpX kpR at q; unfold w_X12_odds inW; simp; omega⟩)
theorem J_rows {v : Nat} {h : qa_M} {x1 x2 x3 x4 : Int32} (iv : Inv v h) (hv : v + 1 < 2147483648) : qW (m_X11_rows x1 x2 x3 x4 h) (fun z => qW (m_X12_rows x1 x2 x3 x4 z.2) (fun y => z.1 = y.1 ∧ Inv (v + 1) y.2)) := by
  refine J_q (fC := m_X11_rows x1 x2 x3 x4) (fR := m_X12_rows x1 x2 x3 x4) (A := fun s L => aRows s L x1 x2 x3 x4) iv hv (fun nl B n I w a i hw => ?_) (fun g wg lg => ?_)
  · exact qW_fr (k_aRows a i hw) (fun z e => fr_X11_rows _ _ _ _ _ e) (fun z hz f => ⟨hz, SmR_fr f (fun b j h1 h2 => by unfold w_X11_rows inW; simp; omega)⟩)
  · exact qW_fr (r_aRows wg lg) (fun z e => fr_X12_rows _ _ _ _ _ e) (fun z hz f => ⟨hz, w_X12_rows, f, fun b j q => by unfold kpX kpR at q; unfold w_X12_rows inW; simp; omega⟩)
theorem J_least {v : Nat} {h : qa_M} {x1 : Int32} (iv : Inv v h) (hv : v + 1 < 2147483648) : qW (m_X11_least x1 h) (fun z => qW (m_X12_least x1 z.2) (fun y => z.1 = y.1 ∧ Inv (v + 1) y.2)) := by
  refine J_q (fC := m_X11_least x1) (fR := m_X12_least x1) (A := fun s L => aLeast s L x1) iv hv (fun nl B n I w a i hw => ?_) (fun g wg lg => ?_)
  · exact qW_fr (k_aLeast a i hw) (fun z e => fr_X11_least _ _ e) (fun z hz f => ⟨hz, SmR_fr f (fun b j h1 h2 => by unfold w_X11_least inW; simp; omega)⟩)
  · exact qW_fr (r_aLeast wg lg) (fun z e => fr_X12_least _ _ e) (fun z hz f => ⟨hz, w_X12_least, f, fun b j q => by unfold kpX kpR at q; unfold w_X12_least inW; simp; omega⟩)
theorem J_careless {v : Nat} {h : qa_M} {x1 : Int32} (iv : Inv v h) (hv : v + 1 < 2147483648) : qW (m_X11_careless x1 h) (fun z => qW (m_X12_careless x1 z.2) (fun y => z.1 = y.1 ∧ Inv (v + 1) y.2)) := by
  refine J_q (fC := m_X11_careless x1) (fR := m_X12_careless x1) (A := fun s L => aCare s L x1) iv hv (fun nl B n I w a i hw => ?_) (fun g wg lg => ?_)
  · exact qW_fr (k_aCare a i hw) (fun z e => fr_X11_careless _ _ e) (fun z hz f => ⟨hz, SmR_fr f (fun b j h1 h2 => by unfold w_X11_careless inW; simp; omega)⟩)
  · exact qW_fr (r_aCare wg lg) (fun z e => fr_X12_careless _ _ e) (fun z hz f => ⟨hz, w_X12_careless, f, fun b j q => by unfold kpX kpR at q; unfold w_X12_careless inW; simp; omega⟩)
theorem J_trust {v : Nat} {h : qa_M} {x1 : Int32} (iv : Inv v h) (hv : v + 1 < 2147483648) : qW (m_X11_trust x1 h) (fun z => qW (m_X12_trust x1 z.2) (fun y => z.1 = y.1 ∧ Inv (v + 1) y.2)) := by
  refine J_q (fC := m_X11_trust x1) (fR := m_X12_trust x1) (A := fun s L => aTrust s L x1) iv hv (fun nl B n I w a i hw => ?_) (fun g wg lg => ?_)
  · exact qW_fr (k_aTrust a i hw) (fun z e => fr_X11_trust _ _ e) (fun z hz f => ⟨hz, SmR_fr f (fun b j h1 h2 => by unfold w_X11_trust inW; simp; omega)⟩)
  · exact qW_fr (r_aTrust wg lg) (fun z e => fr_X12_trust _ _ e) (fun z hz f => ⟨hz, w_X12_trust, f, fun b j q => by unfold kpX kpR at q; unfold w_X12_trust inW; simp; omega⟩)
theorem J_news {v : Nat} {h : qa_M} {x1 x2 : Int32} (iv : Inv v h) (hv : v + 1 < 2147483648) : qW (m_X11_news x1 x2 h) (fun z => qW (m_X12_news x1 x2 z.2) (fun y => z.1 = y.1 ∧ Inv (v + 1) y.2)) := by
  refine J_q (fC := m_X11_news x1 x2) (fR := m_X12_news x1 x2) (A := fun s L => aNews s L x1 x2) iv hv (fun nl B n I w a i hw => ?_) (fun g wg lg => ?_)
  · exact qW_fr (k_aNews a i hw) (fun z e => fr_X11_news _ _ _ e) (fun z hz f => ⟨hz, SmR_fr f (fun b j h1 h2 => by unfold w_X11_news inW; simp; omega)⟩)
  · exact qW_fr (r_aNews wg lg) (fun z e => fr_X12_news _ _ _ e) (fun z hz f => ⟨hz, w_X12_news, f, fun b j q => by unfold kpX kpR at q; unfold w_X12_news inW; simp; omega⟩)
theorem J_quarrel {v : Nat} {h : qa_M} {x1 x2 : Int32} (iv : Inv v h) (hv : v + 1 < 2147483648) : qW (m_X11_quarrel x1 x2 h) (fun z => qW (m_X12_quarrel x1 x2 z.2) (fun y => z.1 = y.1 ∧ Inv (v + 1) y.2)) := by
  refine J_q (fC := m_X11_quarrel x1 x2) (fR := m_X12_quarrel x1 x2) (A := fun s L => aQuar s L x1 x2) iv hv (fun nl B n I w a i hw => ?_) (fun g wg lg => ?_)
  · exact qW_fr (k_aQuar a i hw) (fun z e => fr_X11_quarrel _ _ _ e) (fun z hz f => ⟨hz, SmR_fr f (fun b j h1 h2 => by unfold w_X11_quarrel inW; simp; omega)⟩)
  · exact qW_fr (r_aQuar wg lg) (fun z e => fr_X12_quarrel _ _ _ e) (fun z hz f => ⟨hz, w_X12_quarrel, f, fun b j q => by unfold kpX kpR at q; unfold w_X12_quarrel inW; simp; omega⟩)
theorem J_worst {v : Nat} {h : qa_M} {x1 x2 : Int32} (iv : Inv v h) (hv : v + 1 < 2147483648) : qW (m_X11_worst x1 x2 h) (fun z => qW (m_X12_worst x1 x2 z.2) (fun y => z.1 = y.1 ∧ Inv (v + 1) y.2)) := by
  refine J_q (fC := m_X11_worst x1 x2) (fR := m_X12_worst x1 x2) (A := fun s L => aWorst s L x1 x2) iv hv (fun nl B n I w a i hw => ?_) (fun g wg lg => ?_)
  · exact qW_fr (k_aWorst a i hw) (fun z e => fr_X11_worst _ _ _ e) (fun z hz f => ⟨hz, SmR_fr f (fun b j h1 h2 => by unfold w_X11_worst inW; simp; omega)⟩)
  · exact qW_fr (r_aWorst wg lg) (fun z e => fr_X12_worst _ _ _ e) (fun z hz f => ⟨hz, w_X12_worst, f, fun b j q => by unfold kpX kpR at q; unfold w_X12_worst inW; simp; omega⟩)
theorem J_next {v : Nat} {h : qa_M} {x1 x2 : Int32} (iv : Inv v h) (hv : v + 1 < 2147483648) : qW (m_X11_next x1 x2 h) (fun z => qW (m_X12_next x1 x2 z.2) (fun y => z.1 = y.1 ∧ Inv (v + 1) y.2)) := by
  refine J_q (fC := m_X11_next x1 x2) (fR := m_X12_next x1 x2) (A := fun s L => aNext s L x1 x2) iv hv (fun nl B n I w a i hw => ?_) (fun g wg lg => ?_)
  · exact qW_fr (k_aNext a i hw) (fun z e => fr_X11_next _ _ _ e) (fun z hz f => ⟨hz, SmR_fr f (fun b j h1 h2 => by unfold w_X11_next inW; simp; omega)⟩)
  · exact qW_fr (r_aNext wg lg) (fun z e => fr_X12_next _ _ _ e) (fun z hz f => ⟨hz, w_X12_next, f, fun b j q => by unfold kpX kpR at q; unfold w_X12_next inW; simp; omega⟩)
theorem J_fresh {v : Nat} {h : qa_M} {x1 x2 x3 : Int32} (iv : Inv v h) (hv : v + 1 < 2147483648) : qW (m_X11_fresh x1 x2 x3 h) (fun z => qW (m_X12_fresh x1 x2 x3 z.2) (fun y => z.1 = y.1 ∧ Inv (v + 1) y.2)) := by
  refine J_q (fC := m_X11_fresh x1 x2 x3) (fR := m_X12_fresh x1 x2 x3) (A := fun s L => aFresh s L x1 x2 x3) iv hv (fun nl B n I w a i hw => ?_) (fun g wg lg => ?_)
  · exact qW_fr (k_aFresh a i hw) (fun z e => fr_X11_fresh _ _ _ _ e) (fun z hz f => ⟨hz, SmR_fr f (fun b j h1 h2 => by unfold w_X11_fresh inW; simp; omega)⟩)
  · exact qW_fr (r_aFresh wg lg) (fun z e => fr_X12_fresh _ _ _ _ e) (fun z hz f => ⟨hz, w_X12_fresh, f, fun b j q => by unfold kpX kpR at q; unfold w_X12_fresh inW; simp; omega⟩)
theorem J_square {v : Nat} {h : qa_M} {x1 x2 x3 : Int32} (iv : Inv v h) (hv : v + 1 < 2147483648) : qW (m_X11_square x1 x2 x3 h) (fun z => qW (m_X12_square x1 x2 x3 z.2) (fun y => z.1 = y.1 ∧ Inv (v + 1) y.2)) := by
  refine J_q (fC := m_X11_square x1 x2 x3) (fR := m_X12_square x1 x2 x3) (A := fun s L => aSq s L x1 x2 x3) iv hv (fun nl B n I w a i hw => ?_) (fun g wg lg => ?_)
  · exact qW_fr (k_aSq a i hw) (fun z e => fr_X11_square _ _ _ _ e) (fun z hz f => ⟨hz, SmR_fr f (fun b j h1 h2 => by unfold w_X11_square inW; simp; omega)⟩)
  · exact qW_fr (r_aSq wg lg) (fun z e => fr_X12_square _ _ _ _ e) (fun z hz f => ⟨hz, w_X12_square, f, fun b j q => by unfold kpX kpR at q; unfold w_X12_square inW; simp; omega⟩)
theorem J_then {v : Nat} {h : qa_M} {x1 x2 x3 x4 : Int32} (iv : Inv v h) (hv : v + 1 < 2147483648) : qW (m_X11_then x1 x2 x3 x4 h) (fun z => qW (m_X12_then x1 x2 x3 x4 z.2) (fun y => z.1 = y.1 ∧ Inv (v + 1) y.2)) := by
  refine J_q (fC := m_X11_then x1 x2 x3 x4) (fR := m_X12_then x1 x2 x3 x4) (A := fun s L => aThen s L x1 x2 x3 x4) iv hv (fun nl B n I w a i hw => ?_) (fun g wg lg => ?_)
  · exact qW_mono (k_aThen a i hw) (fun z hz => ⟨⟨hz.1, hz.2.1⟩, hz.2.2⟩)
  · exact qW_fr (r_aThen wg lg) (fun z e => fr_X12_then _ _ _ _ _ e) (fun z hz f => ⟨hz, w_X12_then, f, fun b j q => by unfold kpX kpR at q; unfold w_X12_then inW; simp; omega⟩)
theorem J_plan {v : Nat} {h : qa_M} {x1 x2 : Int32} (iv : Inv v h) (hv : v + 1 < 2147483648) : qW (m_X11_plan x1 x2 h) (fun z => qW (m_X12_plan x1 x2 z.2) (fun y => z.1 = y.1 ∧ Inv (v + 1) y.2)) := by
  refine J_q (fC := m_X11_plan x1 x2) (fR := m_X12_plan x1 x2) (A := fun s L => aPlan s L x1 x2) iv hv (fun nl B n I w a i hw => ?_) (fun g wg lg => ?_)
  · exact qW_mono (k_aPlan a i hw) (fun z hz => ⟨⟨hz.1, hz.2.1⟩, hz.2.2⟩)
  · exact qW_fr (r_aPlan wg lg) (fun z e => fr_X12_plan _ _ _ e) (fun z hz f => ⟨hz, w_X12_plan, f, fun b j q => by unfold kpX kpR at q; unfold w_X12_plan inW; simp; omega⟩)
