/-! A LAND IS READ: both sides -/
theorem PC.both {W : List (Nat × Nat)} {s t : Sg} {L : Nat → Lw} {nl : Nat} {B C : Nat → Nat} {n m : Nat} {I : Nat → Option qa_M} {h g : qa_M} (p : PC s L nl B n I h) (a : AL s L nl) (f : qfr W h g) (r : RelS 3 t g) (tp : TpC C m g) (w : ∀ b j, (b = 0 ∧ j = 5) ∨ (11 ≤ b ∧ b ≤ 13) ∨ b = 23 ∨ (b = 40 ∧ j = 8) ∨ (51 ≤ b ∧ b ≤ 118) → inW W b j = false) : PC t L nl C m I g := by
  have n4 := a.n4
  have lk : LKeep 4 h g := LKeep_fr f (fun b j h1 h2 => w _ _ (by omega)) (by omega)
  exact ⟨r, tp, (f.1 0 5 (w _ _ (by omega))).1.trans p.nl, fun k hk => lk k (L k) (by omega) (a.wl k hk) (p.cl k hk), fun k hk => ⟨(f.1 11 k (w _ _ (by omega))).2.2.trans (p.rf k hk).1, (f.1 13 k (w _ _ (by omega))).2.2.trans (p.rf k hk).2⟩, fun k hk => IC_fr (p.im k hk) f (fun j => w _ _ (by omega)) (fun b j h1 h2 => w _ _ (by omega)), Near_fr p.nt f (fun j => w _ _ (by omega)), RS_fr p.lr f (w _ _ (by omega))⟩
theorem DC_0 {s : Sg} (z : Z0 s) : DC s 0 := ⟨DF_0 z, fun _ => z, fun h => absurd h (by omega)⟩
def aLand (B : Nat → Nat) (n : Nat) (s0 : Sg) : Int32 := match ldP B n 25 s0 0 0 with
  | .inl f => -2 - nn f
  | .inr t => t 0 2
def LdS (B : Nat → Nat) (n : Nat) (s0 s s' : Sg) : Prop := match ldP B n 25 s0 0 0 with
  | .inl _ => s' = s
  | .inr t => AgS s' t ∧ s' 0 5 = 0 ∧ s' 0 6 = s 0 6 ∧ s' 0 7 = s 0 7
theorem TpC_0 {B : Nat → Nat} {h : qa_M} (e : h.1 1 1 = 0) : TpC B 0 h := ⟨e, by omega, fun j hj => absurd hj (Nat.not_lt_zero _)⟩
theorem TpR_0 {B : Nat → Nat} {h : qa_M} (e : h.1 119 20 = 0) : TpR B 0 h := ⟨e, by omega, fun j hj => absurd hj (Nat.not_lt_zero _)⟩
theorem k_aLand {s s' s0 : Sg} {L : Nat → Lw} {nl : Nat} {B : Nat → Nat} {n : Nat} {I : Nat → Option qa_M} {v : Nat} {h : qa_M} (a : AL s L nl) (i : IvC s L nl B n I v h) (hv : v + 1 < 2147483648) (z0 : Z0 s0) (ls : LdS B n s0 s s') : qW (m_X11_land h) (fun z => z.1 = aLand B n s0 ∧ ∃ v2, v2 ≤ v + 1 ∧ IvC s' L nl B 0 I v2 z.2) := by
  refine qW_fr (k_land z0 i.1.tp) (fun z e => fr_X11_land _ e) ?_
  rintro ⟨x, g⟩ hz f
  have f : qfr w_X11_land h g := f
  unfold LdS at ls
  unfold aLand
  cases q : ldP B n 25 s0 0 0 with
  | inl e =>
    rw [q] at hz ls
    obtain ⟨z1, z2, f2⟩ := hz
    have z2 : g.1 1 1 = 0 := z2
    have f2 : qfr ((1, 2) :: w_X4_read) h g := f2
    have ls : s' = s := ls
    rw [ls]
    exact ⟨z1, v, by omega, i.1.tape a f2 (TpC_0 z2) (fun b j k => by unfold w_X4_read inW; simp; omega), i.2.fr f2 (fun b j k => by unfold kpV at k; unfold w_X4_read inW; simp; omega)⟩
  | inr t =>
    rw [q] at hz ls
    obtain ⟨z1, z2, z3, z4, z5⟩ := hz
    have z2 : g.1 1 1 = 0 := z2
    have z3 : RelL 4 t g := z3
    have z4 : g.1 3 1 = 0 := z4
    have z5 : g.1 0 13 = h.1 0 13 + 1 := z5
    obtain ⟨ag, s5, s6, s7⟩ := ls
    obtain ⟨df, -, -⟩ := ldP_ok q (DC_0 z0) (Nat.zero_le _)
    have r : RelS 3 s' g := by
      refine ⟨ag.rel df.1 z3, by rw [z4, s5], fun m k hm hk => ?_, ?_, ?_⟩
      · have : gT s' = 0 := by unfold gT; rw [s5]; rfl
        omega
      · rw [s6, (f.1 3 3 rfl).1]; exact i.1.rs.2.2.2.1
      · rw [s7, (f.1 3 4 rfl).1]; exact i.1.rs.2.2.2.2
    exact ⟨z1, v + 1, Nat.le_refl _, i.1.both a f r (TpC_0 z2) (fun b j k => by unfold w_X11_land inW; simp; omega), i.2.bump hv (by rw [z5, i.2.vs, nn_add1]) (f.1 0 14 rfl).1 (f.1 34 0 rfl).1 (f.1 40 4 rfl).1 (f.1 40 12 rfl).1⟩
theorem r_aLand {nl : Nat} {B : Nat → Nat} {n : Nat} {I : Nat → Option qa_M} {h : qa_M} (i : IvR nl B n I h) : qW (m_X12_land h) (fun z => z.1 = aLand B n (z0S h) ∧ IvR nl B 0 I z.2 ∧ lw z.2 = lw h ∧ LdS B n (z0S h) (sg h) (sg z.2)) := by
  refine qW_fr (r_readLand i.tp) (fun z e => fr_X12_land _ e) ?_
  rintro ⟨x, g⟩ hz f
  have f : qfr w_X12_land h g := f
  have el : lw g = lw h := lw_fr f (fun b j h1 h2 => by unfold w_X12_land inW; simp; omega)
  unfold LdS aLand
  have fin : g.1 119 20 = 0 → WF (sg g) → OB g → gL (sg g) ≤ nl → IvR nl B 0 I g := fun e wf ob gl => ⟨wf, ob, TpR_0 e, (f.1 119 24 rfl).1.trans i.nl, i.n4, gl, fun k hk => by rw [el]; exact i.wl k hk, (f.1 119 29 rfl).1.trans i.s7, fun k hk => IR_fr (i.im k hk) f (fun b j h1 h2 => by unfold w_X12_land inW; simp; omega)⟩
  cases q : ldP B n 25 (z0S h) 0 0 with
  | inl e =>
    rw [q] at hz
    obtain ⟨z1, z2, z3⟩ := hz
    have z2 : g.1 119 20 = 0 := z2
    have z3 : sg g = sg h := z3
    refine ⟨z1, fin z2 (by rw [z3]; exact i.wf) (fun a j h1 h2 => ?_) (by rw [z3]; exact i.gl), el, z3⟩
    have := congrFun (congrFun z3 a) j
    rw [sg_row h1, sg_row h1] at this
    rw [this]
    exact i.ob a j h1 h2
  | inr t =>
    rw [q] at hz
    obtain ⟨z1, z2, m0, m5, m6, m1, m2, m4, m3, o1, o2, o4, o3⟩ := hz
    have z2 : g.1 119 20 = 0 := z2
    obtain ⟨df, hC, -⟩ := ldP_ok q (DC_0 z0S_0) (Nat.zero_le _)
    have ag : AgS (sg g) t := by
      intro a j h1 h2
      rw [sg_row (by omega)]
      have : a = 0 ∨ a = 1 ∨ a = 2 ∨ a = 3 ∨ a = 4 ∨ a = 5 ∨ a = 6 := by omega
      rcases this with rfl | rfl | rfl | rfl | rfl | rfl | rfl
      · exact m0 j h2
      · exact m1 j h2
      · exact (m2 j h2).1
      · exact (m2 j h2).2
      · exact (m4 j h2).1
      · exact (m4 j h2).2
      · exact m3 j h2
    have e5 : sg g 0 5 = 0 := m5
    have e6 : sg g 0 6 = sg h 0 6 := m6 6 (by omega)
    have e7 : sg g 0 7 = sg h 0 7 := m6 7 (by omega)
    have t0 : gT (sg g) = 0 := by unfold gT; rw [e5]; rfl
    refine ⟨z1, fin z2 (ag.wf df.1 (by rw [e5]; exact ⟨0, by omega, rfl⟩) (by rw [e6]; exact i.wf.1.2.2.2.2.2.2.1) (by rw [e7]; exact i.wf.1.2.2.2.2.2.2.2) (fun k hk => by omega) (fun k => t0)) (fun a j h1 h2 => ?_) ?_, el, ag, e5, e6, e7⟩
    · rw [← i.ob a j h1 h2]
      have : a = 0 ∨ a = 1 ∨ a = 2 ∨ a = 3 ∨ a = 4 ∨ a = 5 ∨ a = 6 ∨ 7 ≤ a := by omega
      rcases this with rfl | rfl | rfl | rfl | rfl | rfl | rfl | h7
      · exact m6 j (by have : 8 ≤ j := h2; omega)
      · exact o1 j h2
      · exact (o2 j h2).1
      · exact (o2 j h2).2
      · exact (o4 j h2).1
      · exact (o4 j h2).2
      · exact o3 j h2
      · exact (f.1 _ _ (by unfold w_X12_land inW; simp; omega)).1
    · have : gL (sg g) = gL (sg h) := by unfold gL; rw [e6]
      rw [this]; exact i.gl
