/-! THE CLASS MAKES ITSELF READY -/
def kpV (b j : Nat) : Prop := (b = 0 ∧ (j = 13 ∨ j = 14)) ∨ (b = 22 ∧ j = 4) ∨ (24 ≤ b ∧ b ≤ 26) ∨ (b = 34 ∧ j = 0) ∨ b = 35 ∨ (b = 40 ∧ j ≤ 13) ∨ (41 ≤ b ∧ b ≤ 43) ∨ b = 167
theorem CV.fr {W : List (Nat × Nat)} {s : Sg} {L : Nat → Lw} {v : Nat} {h g : qa_M} (c : CV s L v h) (f : qfr W h g) (w : ∀ b j, kpV b j → inW W b j = false) : CV s L v g := by
  have w2 : ∀ b j, kpV b j → g.1 b j = h.1 b j := fun b j k => (f.1 b j (w b j k)).1
  refine ⟨(w2 0 13 (by unfold kpV; omega)).trans c.vs, ?_, ?_, ?_, ?_⟩
  · rw [w2 0 14 (by unfold kpV; omega)]
    exact VC_im c.sp (fun p => SP_fr p f (w _ _ (by unfold kpV; omega)) (fun b j h1 h2 => w _ _ (by unfold kpV; omega)))
  · rw [w2 34 0 (by unfold kpV; omega)]
    exact VC_im c.ft (fun p => FT_frm p f (fun j => w _ _ (by unfold kpV; omega)))
  · rw [w2 40 4 (by unfold kpV; omega), w2 40 5 (by unfold kpV; omega), w2 40 6 (by unfold kpV; omega)]
    exact VC_im c.lk (fun p S m h1 h2 h3 h4 => LK_frm (p S m h1 h2 h3 h4) f (w _ _ (by unfold kpV; omega)) (fun b j h1 h2 => w _ _ (by unfold kpV; omega)))
  · rw [w2 40 12 (by unfold kpV; omega), w2 40 13 (by unfold kpV; omega)]
    exact VC_im c.pk (fun p S h1 h2 => PK_frm (p S h1 h2) f (w _ _ (by unfold kpV; omega)) (w _ _ (by unfold kpV; omega)) (fun j => w _ _ (by unfold kpV; omega)))
def IvC (s : Sg) (L : Nat → Lw) (nl : Nat) (B : Nat → Nat) (n : Nat) (I : Nat → Option qa_M) (v : Nat) (h : qa_M) : Prop := PC s L nl B n I h ∧ CV s L v h
/-- the class's side, made ready -/
def IvS (s : Sg) (L : Nat → Lw) (nl : Nat) (B : Nat → Nat) (n : Nat) (I : Nat → Option qa_M) (v : Nat) (h : qa_M) : Prop := PC s L nl B n I h ∧ CV s L v h ∧ SP s L h
theorem IvS.c {s : Sg} {L : Nat → Lw} {nl : Nat} {B : Nat → Nat} {n : Nat} {I : Nat → Option qa_M} {v : Nat} {h : qa_M} (i : IvS s L nl B n I v h) : IvC s L nl B n I v h := ⟨i.1, i.2.1⟩
theorem IvS.fr {W : List (Nat × Nat)} {s : Sg} {L : Nat → Lw} {nl : Nat} {B : Nat → Nat} {n : Nat} {I : Nat → Option qa_M} {v : Nat} {h g : qa_M} (i : IvS s L nl B n I v h) (a : AL s L nl) (f : qfr W h g) (w : ∀ b j, (kpP b j ∨ kpV b j) ∨ (83 ≤ b ∧ b ≤ 118) → inW W b j = false) : IvS s L nl B n I v g :=
  ⟨i.1.fr a f (LKeep_fr f (fun b j h1 h2 => w b j (.inr ⟨h1, h2⟩)) (by omega)) (fun b j k => w b j (.inl (.inl k))), i.2.1.fr f (fun b j k => w b j (.inl (.inr k))), SP_fr i.2.2 f (w _ _ (.inl (.inr (by unfold kpV; omega)))) (fun b j h1 h2 => w _ _ (.inl (.inr (by unfold kpV; omega))))⟩
theorem IvC.fr {W : List (Nat × Nat)} {s : Sg} {L : Nat → Lw} {nl : Nat} {B : Nat → Nat} {n : Nat} {I : Nat → Option qa_M} {v : Nat} {h g : qa_M} (i : IvC s L nl B n I v h) (a : AL s L nl) (f : qfr W h g) (w : ∀ b j, (kpP b j ∨ kpV b j) ∨ (83 ≤ b ∧ b ≤ 118) → inW W b j = false) : IvC s L nl B n I v g :=
  ⟨i.1.fr a f (LKeep_fr f (fun b j h1 h2 => w b j (.inr ⟨h1, h2⟩)) (by omega)) (fun b j k => w b j (.inl (.inl k))), i.2.fr f (fun b j k => w b j (.inl (.inr k)))⟩
theorem k_ready {s : Sg} {L : Nat → Lw} {nl : Nat} {B : Nat → Nat} {n : Nat} {I : Nat → Option qa_M} {v : Nat} {h : qa_M} (a : AL s L nl) (i : IvC s L nl B n I v h) (hv : v < 2147483648) : qW (m_X11_prepare h) (IvS s L nl B n I v) := by
  have n4 := a.n4
  have gl := a.gl
  have e6 := a.wf.l
  unfold m_X11_prepare
  by_cases c : h.1 0 14 = h.1 0 13
  · rw [if_pos c, qW_some]
    exact ⟨i.1, i.2, i.2.sp.1 (c.trans i.2.vs)⟩
  · rw [if_neg c]
    have b41 : ∀ x, x = (if gL s = 0 then 0 else lA (gL s - 1) + 1) → qW (f_X11_prepare_b41 x h) (IvS s L nl B n I v) := by
      intro x hx
      unfold f_X11_prepare_b41
      rw [qW_bv]
      refine qW_fr (k_prepare7 a.wf i.1.rs.1 (by omega) (fun k hk => a.wl k (by omega)) (fun k hk => i.1.cl k (by omega)) hx) (fun z e => fr_X7_prepare _ _ e) ?_
      rintro g ⟨sp, lk⟩ f
      have f : qfr w_X7_prepare h g := f
      rw [qbd_e, qW_some]
      have p1 := i.1.fr a f lk (fun b j k => by unfold kpP at k; unfold w_X7_prepare inW; simp; omega)
      have e13 : g.1 0 13 = nn v := (f.1 0 13 rfl).1.trans i.2.vs
      rw [e13]
      have f2 : qfr [(0, 15)] g (qw_I g 0 14 (nn v)) := qfr_Ik rfl (by simp) qfr_rf
      have sp2 := SP_fr sp f2 rfl (fun b j h1 h2 => by unfold inW; simp; omega)
      refine ⟨p1.fr a f2 (LKeep_fr f2 (fun b j h1 h2 => by unfold inW; simp; omega) (by omega)) (fun b j k => by unfold kpP at k; unfold inW; simp; omega), ⟨?_, ?_, ?_, ?_, ?_⟩, sp2⟩
      · rw [wI_ne (by omega)]; exact e13
      · rw [wI_at]; exact VC_at hv sp2
      · rw [wI_ne (by omega), (f.1 34 0 rfl).1]
        exact VC_im i.2.ft (fun p => FT_frm (FT_frm p f (fun j => rfl)) f2 (fun j => rfl))
      · rw [wI_ne (by omega), wI_ne (by omega), wI_ne (by omega), (f.1 40 4 rfl).1, (f.1 40 5 rfl).1, (f.1 40 6 rfl).1]
        exact VC_im i.2.lk (fun p S m h1 h2 h3 h4 => LK_frm (LK_frm (p S m h1 h2 h3 h4) f rfl (fun b j h1 h2 => by unfold w_X7_prepare inW; simp; omega)) f2 rfl (fun b j h1 h2 => by unfold inW; simp; omega))
      · rw [wI_ne (by omega), wI_ne (by omega), (f.1 40 12 rfl).1, (f.1 40 13 rfl).1]
        exact VC_im i.2.pk (fun p S h1 h2 => PK_frm (PK_frm (p S h1 h2) f rfl rfl (fun j => rfl)) f2 rfl rfl (fun j => rfl))
    have e33 : h.1 3 3 = nn (gL s) - 1 := by rw [i.1.rs.2.2.2.1, ← e6.1]
    rw [e33]
    by_cases c0 : gL s = 0
    · rw [c0, if_neg (by decide)]
      exact b41 0 (by rw [if_pos c0])
    · have es : nn (gL s) - 1 = nn (gL s - 1) := by
        rw [show nn (gL s) = nn (gL s - 1) + 1 by rw [nn_add1]; congr 1; omega, Int32.add_sub_cancel]
      rw [es, if_pos (by rw [show (0 : Int32) = nn 0 from rfl, nn_le (by omega) (by omega)]; omega), qck_nn (by omega) (by omega), nn_cl (by omega), (i.1.rf _ (by omega)).2]
      exact b41 _ (by rw [if_neg c0])
