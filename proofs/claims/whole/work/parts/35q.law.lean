/-! A LAW IS READ: both sides -/
theorem AG_q {k m : Nat} {h g : qa_M} (q : QZ m 0 h g) (e : g.1 142 k = h.1 142 k) (hk : k < m) : AG (lw h k) (lw g k) := by
  refine ⟨e.symm, fun i c h1 h2 h3 => ?_, fun e he => ⟨((q.1 (300 * k + e) (by omega)).1).symm, ((q.1 (300 * k + e) (by omega)).2).symm⟩⟩
  have z : ∀ b, 143 ≤ b → b ≤ 147 → h.1 b (12 * k + c) = g.1 b (12 * k + c) := fun b h4 h5 => (q.2 b _ h4 h5 (by omega)).symm
  have : i = 1 ∨ i = 2 ∨ i = 3 ∨ i = 4 ∨ i = 5 := by omega
  rcases this with rfl | rfl | rfl | rfl | rfl
  · exact z 143 (by omega) (by omega)
  · exact z 144 (by omega) (by omega)
  · exact z 145 (by omega) (by omega)
  · exact z 146 (by omega) (by omega)
  · exact z 147 (by omega) (by omega)
theorem qsub_t {p : Nat × Nat} {L : List (Nat × Nat)} : qsub L (p :: L) := fun b j e => by
  unfold inW at e ⊢
  rw [List.any_cons, e, Bool.or_true]
def aLaw (B : Nat → Nat) (n nl : Nat) : Int32 := if nl = 4 then -1 else match lwP B n 13 0 [] 0 [] with
  | .inl f => -2 - nn f
  | .inr _ => nn nl
def nLaw (B : Nat → Nat) (n nl : Nat) : Nat := if nl = 4 then nl else match lwP B n 13 0 [] 0 [] with
  | .inl _ => nl
  | .inr _ => nl + 1
def tLaw (nl n : Nat) : Nat := if nl = 4 then n else 0
/-- the laws before and behind -/
def LwS (B : Nat → Nat) (n nl : Nat) (L M : Nat → Lw) : Prop := (∀ k, k < nl → AG (L k) (M k)) ∧ ∀ r, nl < 4 → lwP B n 13 0 [] 0 [] = .inr r → ∃ g, KL nl r.1 r.2 g ∧ M nl = lw g nl
theorem r_aLaw {nl : Nat} {B : Nat → Nat} {n : Nat} {I : Nat → Option qa_M} {h : qa_M} (i : IvR nl B n I h) : qW (m_X12_law h) (fun z => z.1 = aLaw B n nl ∧ IvR (nLaw B n nl) B (tLaw nl n) I z.2 ∧ sg z.2 = sg h ∧ LwS B n nl (lw h) (lw z.2)) := by
  have n4 := i.n4
  have h400 := i.tp.2.1
  by_cases c4 : nl = 4
  · unfold m_X12_law aLaw nLaw tLaw LwS
    rw [i.nl, if_pos (by rw [c4]; rfl), if_pos c4, if_pos c4, if_pos c4, qW_some]
    exact ⟨rfl, i, rfl, fun k hk => ⟨rfl, fun _ _ _ _ _ => rfl, fun _ _ => ⟨rfl, rfl⟩⟩, fun r hr => by omega⟩
  · refine qW_fr (r_law i.tp i.nl (by omega) i.s7) (fun z e => fr_X12_law _ e) ?_
    rintro ⟨x, g⟩ ⟨z1, z2, z3, z4⟩ f
    have f : qfr w_X12_law h g := f
    have z1 : g.1 119 20 = 0 := z1
    have z2 : QZ nl 0 h g := z2
    have z3 : ∀ j, j < nl → g.1 142 j = h.1 142 j := z3
    have es : sg g = sg h := sg_fr f (fun b j h1 h2 => by unfold w_X12_law inW; simp; omega)
    have ag : ∀ k, k < nl → AG (lw h k) (lw g k) := fun k hk => AG_q z2 (z3 k hk) hk
    unfold aLaw nLaw tLaw LwS
    rw [if_neg c4, if_neg c4, if_neg c4]
    have fin : ∀ m, nl ≤ m → m ≤ 4 → g.1 119 24 = nn m → (∀ k, k < m → WL (lw g k)) → IvR m B 0 I g := fun m h1 h2 h3 h4 => ⟨by rw [es]; exact i.wf, fun a j h5 h6 => (f.1 _ j (by unfold w_X12_law inW; simp; omega)).1.trans (i.ob a j h5 h6), TpR_0 z1, h3, h2, by rw [es]; have := i.gl; omega, h4, (f.1 119 29 rfl).1.trans i.s7, fun k hk => by
      have := IR_fr (i.im k hk) f (fun b j h1 h2 => by unfold w_X12_law inW; simp; omega)
      cases e : I k with
      | none => rw [e] at this; exact this
      | some h0 => rw [e] at this; exact ⟨this.1, this.2.1, this.2.2.1, by have := this.2.2.2.1; omega, this.2.2.2.2⟩⟩
    cases q : lwP B n 13 0 [] 0 [] with
    | inl e =>
      rw [q] at z4
      obtain ⟨z4, z5⟩ := z4
      exact ⟨z4, fin nl (Nat.le_refl _) n4 z5 (fun k hk => (ag k hk).wl (i.wl k hk)), es, ag, fun r hr h2 => by cases h2⟩
    | inr r =>
      rw [q] at z4
      obtain ⟨z4, z5, z6, z7, z8⟩ := z4
      obtain ⟨p2, c2, l, h12⟩ := lwP_ok (by decide) (by decide) (LI_0 h400) q
      have kl : KL nl r.1 r.2 g := ⟨z6, z7, z8⟩
      refine ⟨z4, fin (nl + 1) (by omega) (by omega) z5 (fun k hk => ?_), es, ag, fun r2 hr h2 => ?_⟩
      · by_cases c : k = nl
        · subst c
          exact KL_WL l h12 kl
        · exact (ag k (by omega)).wl (i.wl k (by omega))
      · cases h2
        exact ⟨g, kl, rfl⟩
theorem k_aLaw {s : Sg} {L M : Nat → Lw} {nl : Nat} {B : Nat → Nat} {n : Nat} {I : Nat → Option qa_M} {v : Nat} {h : qa_M} (a : AL s L nl) (i : IvC s L nl B n I v h) (ls : LwS B n nl L M) : qW (m_X11_law h) (fun z => z.1 = aLaw B n nl ∧ IvC s M (nLaw B n nl) B (tLaw nl n) I v z.2) := by
  have n4 := a.n4
  have h400 := i.1.tp.2.1
  have le : LE s L M := LE_ag (fun k hk => ⟨ls.1 k (by have := a.gl; omega), a.w1 k hk⟩)
  have cvM : ∀ {g : qa_M}, CV s L v g → CV s M v g := fun c => ⟨c.vs, VC_im c.sp (fun p => le.sp p), VC_im c.ft (fun p => le.ft p), VC_im c.lk (fun p S m h1 h2 h3 h4 => le.lk (p S m h1 h2 h3 h4)), VC_im c.pk (fun p S h1 h2 => le.pk (p S h1 h2))⟩
  unfold m_X11_law aLaw nLaw tLaw
  rw [i.1.nl]
  by_cases c4 : nl = 4
  · rw [if_neg (by rw [c4]; decide), if_pos c4, if_pos c4, if_pos c4, qW_some]
    exact ⟨rfl, ⟨i.1.rs, i.1.tp, i.1.nl, fun k hk => (ls.1 k hk).cl (a.wl k hk) (i.1.cl k hk), i.1.rf, i.1.im, i.1.nt, i.1.lr⟩, cvM i.2⟩
  · have hq : qLaw (lA nl) := lA_q (by omega)
    rw [if_pos (by exact (nn_lt (b := 4) (by omega) (by omega)).mpr (by omega)), if_neg c4, if_neg c4, if_neg c4, qck_nn (by omega) (by omega), nn_cl (by omega), (i.1.rf nl (by omega)).2, qnn_s, qpr_t (by exact hq), qW_bn]
    refine qW_mono (k_readLaw hq i.1.tp) ?_
    rintro ⟨x, g⟩ hz
    obtain ⟨H, hH⟩ : ∃ H, H = qw_R h 21 1 (lA nl + 1) := ⟨_, rfl⟩
    rw [← hH] at hz
    have fH : qfr [(21, 2)] h H := by rw [hH]; exact qfr_Rk rfl (by simp) qfr_rf
    have h83 : lA nl = 83 + 9 * nl := rfl
    have fin : ∀ (G : qa_M) (m : Nat), qfr (wLa (lA nl)) H g → qfr [(0, 6), (1, 2)] g G → G.1 1 1 = 0 → G.1 0 5 = nn m → (m = nl ∨ (m = nl + 1 ∧ CL (lA nl) (M nl) g)) → IvC s M m B 0 I v G := by
      intro G m f1 f2 e1 e5 hc
      have f3 : qfr ((0, 6) :: (1, 2) :: (21, 2) :: wLa (lA nl)) h G := by
        refine qfr_tr (qfr_sub ?_ fH) (qfr_tr (qfr_sub ?_ f1) (qfr_sub ?_ f2))
        · exact qsub_c (by simp) qsub_nil
        · exact fun b j e => qsub_t b j (qsub_t b j (qsub_t b j e))
        · exact qsub_c (by simp) (qsub_c (by simp) qsub_nil)
      have nw : ∀ b j, (b = 0 ∧ j ≠ 5) ∨ (2 ≤ b ∧ b ≤ 20) ∨ (22 ≤ b ∧ b < lA nl) ∨ lA nl + 7 ≤ b → inW ((0, 6) :: (1, 2) :: (21, 2) :: wLa (lA nl)) b j = false := fun b j k => by unfold wLa inW; simp; omega
      have clk : ∀ k, k < nl → CL (lA k) (M k) G := fun k hk => (ls.1 k hk).cl (a.wl k hk) (CL_keep (i.1.cl k hk) (fun b j h1 h2 h3 => (f3.1 b j (nw b j (by unfold lA at h1 h2 ⊢; omega))).1) (fun j hj => (f3.1 _ j (nw _ j (by unfold lA; omega))).1))
      refine ⟨⟨RelS_fr i.1.rs f3 (fun c j h1 h2 => nw _ _ (by omega)), TpC_0 e1, e5, fun k hk => ?_, fun k hk => ⟨(f3.1 11 k (nw _ _ (by omega))).2.2.trans (i.1.rf k hk).1, (f3.1 13 k (nw _ _ (by omega))).2.2.trans (i.1.rf k hk).2⟩, fun k hk => IC_fr (i.1.im k hk) f3 (fun j => nw _ _ (by omega)) (fun b j h1 h2 => nw _ _ (by omega)), Near_fr i.1.nt f3 (fun j => nw _ _ (by omega)), RS_fr i.1.lr f3 (nw _ _ (by omega))⟩, cvM (i.2.fr f3 (fun b j k => nw _ _ (by unfold kpV at k; omega)))⟩
      by_cases ck : k < nl
      · exact clk k ck
      · rcases hc with hc | ⟨hc, cn⟩
        · omega
        · have : k = nl := by omega
          subst this
          exact CL_keep cn (fun b j h1 h2 h3 => (f2.1 b j (by unfold inW; simp; omega)).1) (fun j hj => (f2.1 _ j (by unfold inW; simp <;> omega)).1)
    rw [qbd_e, qbd_e]
    have f2 : qfr [(0, 6), (1, 2)] g (qw_I g 1 1 0) := qfr_Ik rfl (by simp) qfr_rf
    cases q : lwP B n 13 0 [] 0 [] with
    | inl e =>
      rw [q] at hz
      obtain ⟨z1, f1⟩ := hz
      have z1 : x = nn e := z1
      subst z1
      have f1 : qfr (wLa (lA nl)) H g := f1
      obtain ⟨er1, er2⟩ := lwP_er (by decide) (by decide) (LI_0 h400) q
      rw [if_neg (fun q => by rw [show (0 : Int32) = nn 0 from rfl, nn_eq (by omega) (by omega)] at q; omega), qW_some]
      refine ⟨rfl, fin _ nl f1 f2 wI_at ?_ (.inl rfl)⟩
      rw [wI_ne (by omega), (f1.1 0 5 (by unfold wLa inW; simp; omega)).1, (fH.1 0 5 rfl).1]
      exact i.1.nl
    | inr r =>
      rw [q] at hz
      obtain ⟨z1, cl, cm, f1⟩ := hz
      have z1 : x = 0 := z1
      subst z1
      have f1 : qfr (wLa (lA nl)) H g := f1
      have cl : CLp (lA nl) r.1 g := cl
      have cm : CM (lA nl) r.2 g := cm
      have e5 : g.1 0 5 = nn nl := by rw [(f1.1 0 5 (by unfold wLa inW; simp; omega)).1, (fH.1 0 5 rfl).1]; exact i.1.nl
      obtain ⟨p2, c2, l, h12⟩ := lwP_ok (by decide) (by decide) (LI_0 h400) q
      obtain ⟨gR, kl, eM⟩ := ls.2 r (by omega) q
      have e5b : (qw_I g 1 1 0).1 0 5 = nn nl := by rw [wI_ne (by omega), e5]
      dsimp only
      rw [if_pos rfl, qbd_e, e5b, nn_add1, qW_some]
      refine ⟨?_, fin _ (nl + 1) f1 (qfr_Ik rfl (by simp) f2) (by rw [wI_ne (by omega), wI_at]) wI_at (.inr ⟨rfl, by rw [eM]; exact KL_CL l h12 kl cl cm⟩)⟩
      show (qw_I (qw_I g 1 1 0) 0 5 (nn (nl + 1))).1 0 5 - 1 = nn nl
      rw [wI_at, ← nn_add1, Int32.add_sub_cancel]
