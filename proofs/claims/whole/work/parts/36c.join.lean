/-! BOTH SIDES, ONE CALL AFTER THE OTHER: image, land, law -/
theorem IvR.img {nl : Nat} {B : Nat → Nat} {n : Nat} {I : Nat → Option qa_M} {h g y : qa_M} {x : Int32} (sm : SmR h g) (i : IvR nl B n (iIm I g x) y) : IvR nl B n (iIm I h x) y := by
  refine ⟨i.wf, i.ob, i.tp, i.nl, i.n4, i.gl, i.wl, i.s7, fun k hk => ?_⟩
  have im := i.im k hk
  unfold iIm at im ⊢
  by_cases c : wiN x 4 = true
  · rw [if_pos c] at im ⊢
    unfold upI at im ⊢
    by_cases ck : k = cN x
    · rw [if_pos ck] at im ⊢
      obtain ⟨m1, m2, m3, m4, m5⟩ := im
      have es := SmR_sg sm
      rw [es] at m2 m4
      exact ⟨m1, m2, fun a j h1 h2 => (sm _ _ (by omega) (by omega)).1.symm.trans (m3 a j h1 h2), m4, fun a j h1 h2 => (m5 a j h1 h2).trans (sm _ _ (by omega) (by omega)).1⟩
    · rw [if_neg ck] at im ⊢; exact im
  · rw [if_neg c] at im ⊢; exact im
theorem SmR_img {k a0 : Nat} {h g : qa_M} (f : qfr (wCp a0) h g) (ha : a0 + 7 < 119) : SmR h g := SmR_fr f (fun b j h1 h2 => by unfold wCp inW; simp; omega)
theorem J_image {v : Nat} {h : qa_M} {x : Int32} (iv : Inv v h) : qW (m_X11_image x h) (fun z => qW (m_X12_image x z.2) (fun y => z.1 = y.1 ∧ Inv (v + 1) y.2)) := by
  obtain ⟨nl, B, n, I, w, hw, ir, ic⟩ := iv
  refine J_s (fC := m_X11_image x) (fR := m_X12_image x) (s' := sg h) (I' := iIm I h x) hw ir (qW_fr (k_aIm (h0 := h) ir.al ic rfl) (fun z e => fr_X11_image _ _ e) (fun z hz f => ⟨⟨hz.1, w, by omega, hz.2⟩, SmR_fr f (fun b j h1 h2 => by unfold w_X11_image inW; simp; omega)⟩)) (fun g rg es el sm => ?_)
  exact qW_fr (r_aIm rg) (fun z e => fr_X12_image _ _ e) (fun z hz f => ⟨⟨by rw [← es]; exact hz.1, IvR.img sm hz.2.1, hz.2.2.1.trans el, hz.2.2.2.trans es⟩, FC_mk f (fun b j q => by unfold w_X12_image inW; simp; omega)⟩)
theorem qW_all {α ι : Type} {x : Option α} {H : ι → Prop} {P : ι → α → Prop} {P0 : α → Prop} (h0 : qW x P0) (h : ∀ i, H i → qW x (P i)) : qW x (fun a => ∀ i, H i → P i a) := by
  cases x with
  | none =>
    obtain ⟨a, ha, -⟩ := h0
    cases ha
  | some a =>
    rw [qW_some]
    intro i hi
    have := h i hi
    rw [qW_some] at this
    exact this
theorem z0S_sm {h g : qa_M} (sm : SmR h g) : z0S g = z0S h := by
  funext i j
  unfold z0S sgN
  by_cases c : i < 7 ∧ (i = 0 → j < 5)
  · rw [if_pos c, if_pos c, (sm (132 + i) j (by omega) (by omega)).1]
  · rw [if_neg c, if_neg c]
theorem J_land {v : Nat} {h : qa_M} (iv : Inv v h) (hv : v + 1 < 2147483648) : qW (m_X11_land h) (fun z => qW (m_X12_land z.2) (fun y => z.1 = y.1 ∧ Inv (v + 1) y.2)) := by
  obtain ⟨nl, B, n, I, w, hw, ir, ic⟩ := iv
  refine qW_fr (qW_all (x := m_X11_land h) (H := fun s' => LdS B n (z0S h) (sg h) s') (P := fun s' z => z.1 = aLand B n (z0S h) ∧ ∃ v2, v2 ≤ w + 1 ∧ IvC s' (lw h) nl B 0 I v2 z.2) (k_land (z0S_0 (h := h)) ic.1.tp) (fun s' hs => k_aLand ir.al ic (by omega) z0S_0 hs)) (fun z e => fr_X11_land _ e) ?_
  rintro ⟨x, g⟩ hz f
  have f : qfr w_X11_land h g := f
  have sm : SmR h g := SmR_fr f (fun b j h1 h2 => by unfold w_X11_land inW; simp; omega)
  refine qW_fr (r_aLand (ir.sm sm)) (fun z e => fr_X12_land _ e) ?_
  rintro ⟨y, k⟩ ⟨ey, rk, lk, ls⟩ f2
  have f2 : qfr w_X12_land g k := f2
  have rk : IvR nl B 0 I k := rk
  have lk : lw k = lw h := (show lw k = lw g from lk).trans (SmR_lw sm)
  have ls : LdS B n (z0S g) (sg g) (sg k) := ls
  rw [z0S_sm sm, SmR_sg sm] at ls
  have ey : y = aLand B n (z0S g) := ey
  rw [z0S_sm sm] at ey
  obtain ⟨ex, v2, hv2, ig⟩ := hz (sg k) ls
  have ak := rk.al
  rw [lk] at ak
  refine ⟨(show x = _ from ex).trans ey.symm, nl, B, 0, I, v2, by omega, rk, ?_⟩
  rw [lk]
  exact IvC.fc ig ak (FC_mk f2 (fun b j q => by unfold w_X12_land inW; simp; omega))
theorem qW_and {α : Type} {x : Option α} {P Q : α → Prop} (h1 : qW x P) (h2 : qW x Q) : qW x (fun a => P a ∧ Q a) := by
  obtain ⟨a, e, p⟩ := h1
  obtain ⟨b, e2, q⟩ := h2
  rw [e] at e2
  have := Option.some.inj e2
  subst this
  exact ⟨a, e, p, q⟩
theorem LWc_fr {H : qa_M} {a : Nat} {r : Nat ⊕ (List LCl × Cd)} {z : Int32 × qa_M} (h : LWc H a r z) : qfr (wLa a) H z.2 := by
  cases r with
  | inl f => exact h.2
  | inr r => exact h.2.2.2
theorem k_lawSm {s : Sg} {L : Nat → Lw} {nl : Nat} {B : Nat → Nat} {n : Nat} {I : Nat → Option qa_M} {v : Nat} {h : qa_M} (a : AL s L nl) (i : IvC s L nl B n I v h) : qW (m_X11_law h) (fun z => SmR h z.2) := by
  have n4 := a.n4
  unfold m_X11_law
  rw [i.1.nl]
  by_cases c4 : nl = 4
  · rw [if_neg (by rw [c4]; decide), qW_some]
    exact SmR_rf
  · have hq : qLaw (lA nl) := lA_q (by omega)
    rw [if_pos (by exact (nn_lt (b := 4) (by omega) (by omega)).mpr (by omega)), qck_nn (by omega) (by omega), nn_cl (by omega), (i.1.rf nl (by omega)).2, qnn_s, qpr_t (by exact hq), qW_bn]
    refine qW_mono (k_readLaw hq i.1.tp) ?_
    rintro ⟨x, g⟩ hz
    have f1 : qfr (wLa (lA nl)) (qw_R h 21 1 (lA nl + 1)) g := LWc_fr hz
    have h83 : lA nl = 83 + 9 * nl := rfl
    have fH : qfr [(21, 2)] h (qw_R h 21 1 (lA nl + 1)) := qfr_Rk rfl (by simp) qfr_rf
    have s1 : SmR h g := SmR_tr (SmR_fr fH (fun b j h1 h2 => by unfold inW; simp; omega)) (SmR_fr f1 (fun b j h1 h2 => by unfold wLa inW; simp; omega))
    have s2 : SmR h (qw_I g 1 1 0) := SmR_tr s1 (SmR_fr (W := [(1, 2)]) (qfr_Ik rfl (by simp) qfr_rf) (fun b j h1 h2 => by unfold inW; simp; omega))
    rw [qbd_e, qbd_e]
    by_cases c : x = 0
    · rw [if_pos c, qbd_e, qW_some]
      exact SmR_tr s2 (SmR_fr (W := [(0, 6)]) (qfr_Ik rfl (by simp) qfr_rf) (fun b j h1 h2 => by unfold inW; simp; omega))
    · rw [if_neg c, qW_some]
      exact s2
theorem J_law {v : Nat} {h : qa_M} (iv : Inv v h) : qW (m_X11_law h) (fun z => qW (m_X12_law z.2) (fun y => z.1 = y.1 ∧ Inv (v + 1) y.2)) := by
  obtain ⟨nl, B, n, I, w, hw, ir, ic⟩ := iv
  refine qW_mono (qW_and (qW_all (x := m_X11_law h) (H := fun M => LwS B n nl (lw h) M) (P := fun M z => z.1 = aLaw B n nl ∧ IvC (sg h) M (nLaw B n nl) B (tLaw nl n) I w z.2) (k_lawSm ir.al ic) (fun M hM => k_aLaw ir.al ic hM)) (k_lawSm ir.al ic)) ?_
  rintro ⟨x, g⟩ ⟨hz, sm⟩
  have sm : SmR h g := sm
  refine qW_fr (r_aLaw (ir.sm sm)) (fun z e => fr_X12_law _ e) ?_
  rintro ⟨y, k⟩ ⟨ey, rk, sk, ls⟩ f2
  have f2 : qfr w_X12_law g k := f2
  have rk : IvR (nLaw B n nl) B (tLaw nl n) I k := rk
  have sk : sg k = sg h := (show sg k = sg g from sk).trans (SmR_sg sm)
  have ls : LwS B n nl (lw g) (lw k) := ls
  rw [SmR_lw sm] at ls
  obtain ⟨ex, ig⟩ := hz (lw k) ls
  have ak := rk.al
  rw [sk] at ak
  refine ⟨(show x = _ from ex).trans (show y = _ from ey).symm, nLaw B n nl, B, tLaw nl n, I, w, by omega, rk, ?_⟩
  rw [sk]
  exact IvC.fc ig ak (FC_mk f2 (fun b j q => by unfold w_X12_law inW; simp; omega))
