/-! WHAT ALWAYS HOLDS -/
def VC (x : Int32) (v : Nat) (P : Prop) : Prop := (x = nn v → P) ∧ ∀ u, v < u → u < 2147483648 → x ≠ nn u
theorem VC_up {x : Int32} {v : Nat} {P Q : Prop} (c : VC x v P) (h : v + 1 < 2147483648) : VC x (v + 1) Q := ⟨fun e => absurd e (c.2 (v + 1) (by omega) h), fun u h1 h2 => c.2 u (by omega) h2⟩
theorem VC_at {v : Nat} {P : Prop} (hv : v < 2147483648) (p : P) : VC (nn v) v P := ⟨fun _ => p, fun u h1 h2 e => by rw [nn_eq hv h2] at e; omega⟩
theorem VC_im {x : Int32} {v : Nat} {P Q : Prop} (c : VC x v P) (f : P → Q) : VC x v Q := ⟨fun e => f (c.1 e), c.2⟩
def len12 : Nat → Nat
  | 0 => 8
  | 1 => 36
  | 2 => 8
  | 3 => 8
  | 4 => 6
  | 5 => 6
  | 6 => 4
  | _ => 10
def off12 : Nat → Nat
  | 0 => 0
  | i + 1 => off12 i + len12 i
def OB (h : qa_M) : Prop := ∀ i j, i < 12 → len12 i ≤ j → h.1 (120 + i) j = 0
def IM (k : Nat) (h0 h : qa_M) : Prop := ∀ i j, i < 12 → j < len12 i → h.1 165 (130 * k + off12 i + j) = h0.1 (120 + i) j
def IR (k nl : Nat) (o : Option qa_M) (h : qa_M) : Prop := match o with
  | none => h.1 166 k = 0
  | some h0 => h.1 166 k = 1 ∧ WF (sg h0) ∧ OB h0 ∧ gL (sg h0) ≤ nl ∧ IM k h0 h
def IC (k : Nat) (o : Option qa_M) (h : qa_M) : Prop := match o with
  | none => h.1 12 k = 0
  | some h0 => h.1 12 k = 1 ∧ RelS (51 + 8 * k) (sg h0) h
/-- the reference's side -/
def IvR (nl : Nat) (B : Nat → Nat) (n : Nat) (I : Nat → Option qa_M) (h : qa_M) : Prop := (WF (sg h)) ∧ (OB h) ∧ (TpR B n h) ∧ (h.1 119 24 = nn nl) ∧ (nl ≤ 4) ∧ (gL (sg h) ≤ nl) ∧ (∀ k, k < nl → WL (lw h k)) ∧ (h.1 119 29 = 7) ∧ (∀ k, k < 4 → IR k nl (I k) h)
theorem IvR.wf {nl : Nat} {B : Nat → Nat} {n : Nat} {I : Nat → Option qa_M} {h : qa_M} (x_ : IvR nl B n I h) : WF (sg h) := x_.1
theorem IvR.ob {nl : Nat} {B : Nat → Nat} {n : Nat} {I : Nat → Option qa_M} {h : qa_M} (x_ : IvR nl B n I h) : OB h := x_.2.1
theorem IvR.tp {nl : Nat} {B : Nat → Nat} {n : Nat} {I : Nat → Option qa_M} {h : qa_M} (x_ : IvR nl B n I h) : TpR B n h := x_.2.2.1
theorem IvR.nl {nl : Nat} {B : Nat → Nat} {n : Nat} {I : Nat → Option qa_M} {h : qa_M} (x_ : IvR nl B n I h) : h.1 119 24 = nn nl := x_.2.2.2.1
theorem IvR.n4 {nl : Nat} {B : Nat → Nat} {n : Nat} {I : Nat → Option qa_M} {h : qa_M} (x_ : IvR nl B n I h) : nl ≤ 4 := x_.2.2.2.2.1
theorem IvR.gl {nl : Nat} {B : Nat → Nat} {n : Nat} {I : Nat → Option qa_M} {h : qa_M} (x_ : IvR nl B n I h) : gL (sg h) ≤ nl := x_.2.2.2.2.2.1
theorem IvR.wl {nl : Nat} {B : Nat → Nat} {n : Nat} {I : Nat → Option qa_M} {h : qa_M} (x_ : IvR nl B n I h) : ∀ k, k < nl → WL (lw h k) := x_.2.2.2.2.2.2.1
theorem IvR.s7 {nl : Nat} {B : Nat → Nat} {n : Nat} {I : Nat → Option qa_M} {h : qa_M} (x_ : IvR nl B n I h) : h.1 119 29 = 7 := x_.2.2.2.2.2.2.2.1
theorem IvR.im {nl : Nat} {B : Nat → Nat} {n : Nat} {I : Nat → Option qa_M} {h : qa_M} (x_ : IvR nl B n I h) : ∀ k, k < 4 → IR k nl (I k) h := x_.2.2.2.2.2.2.2.2
/-- the class's side: what stays -/
def PC (s : Sg) (L : Nat → Lw) (nl : Nat) (B : Nat → Nat) (n : Nat) (I : Nat → Option qa_M) (h : qa_M) : Prop := (RelS 3 s h) ∧ (TpC B n h) ∧ (h.1 0 5 = nn nl) ∧ (∀ k, k < nl → CL (lA k) (L k) h) ∧ (∀ k, k < 4 → h.2.2.1 11 k = 51 + 8 * k + 1 ∧ h.2.2.1 13 k = lA k + 1) ∧ (∀ k, k < 4 → IC k (I k) h) ∧ (NearT h) ∧ (RS h)
theorem PC.rs {s : Sg} {L : Nat → Lw} {nl : Nat} {B : Nat → Nat} {n : Nat} {I : Nat → Option qa_M} {h : qa_M} (x_ : PC s L nl B n I h) : RelS 3 s h := x_.1
theorem PC.tp {s : Sg} {L : Nat → Lw} {nl : Nat} {B : Nat → Nat} {n : Nat} {I : Nat → Option qa_M} {h : qa_M} (x_ : PC s L nl B n I h) : TpC B n h := x_.2.1
theorem PC.nl {s : Sg} {L : Nat → Lw} {nl : Nat} {B : Nat → Nat} {n : Nat} {I : Nat → Option qa_M} {h : qa_M} (x_ : PC s L nl B n I h) : h.1 0 5 = nn nl := x_.2.2.1
theorem PC.cl {s : Sg} {L : Nat → Lw} {nl : Nat} {B : Nat → Nat} {n : Nat} {I : Nat → Option qa_M} {h : qa_M} (x_ : PC s L nl B n I h) : ∀ k, k < nl → CL (lA k) (L k) h := x_.2.2.2.1
theorem PC.rf {s : Sg} {L : Nat → Lw} {nl : Nat} {B : Nat → Nat} {n : Nat} {I : Nat → Option qa_M} {h : qa_M} (x_ : PC s L nl B n I h) : ∀ k, k < 4 → h.2.2.1 11 k = 51 + 8 * k + 1 ∧ h.2.2.1 13 k = lA k + 1 := x_.2.2.2.2.1
theorem PC.im {s : Sg} {L : Nat → Lw} {nl : Nat} {B : Nat → Nat} {n : Nat} {I : Nat → Option qa_M} {h : qa_M} (x_ : PC s L nl B n I h) : ∀ k, k < 4 → IC k (I k) h := x_.2.2.2.2.2.1
theorem PC.nt {s : Sg} {L : Nat → Lw} {nl : Nat} {B : Nat → Nat} {n : Nat} {I : Nat → Option qa_M} {h : qa_M} (x_ : PC s L nl B n I h) : NearT h := x_.2.2.2.2.2.2.1
theorem PC.lr {s : Sg} {L : Nat → Lw} {nl : Nat} {B : Nat → Nat} {n : Nat} {I : Nat → Option qa_M} {h : qa_M} (x_ : PC s L nl B n I h) : RS h := x_.2.2.2.2.2.2.2
/-- what it has kept from earlier calls -/
def CV (s : Sg) (L : Nat → Lw) (v : Nat) (h : qa_M) : Prop := (h.1 0 13 = nn v) ∧ (VC (h.1 0 14) v (SP s L h)) ∧ (VC (h.1 34 0) v (FT s L h)) ∧ (VC (h.1 40 4) v (∀ S m, S < 2147483648 → m < 2147483648 → h.1 40 5 = nn S → h.1 40 6 = nn m → LK s L S m h)) ∧ (VC (h.1 40 12) v (∀ S, S < 2147483648 → h.1 40 13 = nn S → PK s L S h))
theorem CV.vs {s : Sg} {L : Nat → Lw} {v : Nat} {h : qa_M} (x_ : CV s L v h) : h.1 0 13 = nn v := x_.1
theorem CV.sp {s : Sg} {L : Nat → Lw} {v : Nat} {h : qa_M} (x_ : CV s L v h) : VC (h.1 0 14) v (SP s L h) := x_.2.1
theorem CV.ft {s : Sg} {L : Nat → Lw} {v : Nat} {h : qa_M} (x_ : CV s L v h) : VC (h.1 34 0) v (FT s L h) := x_.2.2.1
theorem CV.lk {s : Sg} {L : Nat → Lw} {v : Nat} {h : qa_M} (x_ : CV s L v h) : VC (h.1 40 4) v (∀ S m, S < 2147483648 → m < 2147483648 → h.1 40 5 = nn S → h.1 40 6 = nn m → LK s L S m h) := x_.2.2.2.1
theorem CV.pk {s : Sg} {L : Nat → Lw} {v : Nat} {h : qa_M} (x_ : CV s L v h) : VC (h.1 40 12) v (∀ S, S < 2147483648 → h.1 40 13 = nn S → PK s L S h) := x_.2.2.2.2
/-- the law and the state are in order -/
def AL (s : Sg) (L : Nat → Lw) (nl : Nat) : Prop := (WF s) ∧ (nl ≤ 4) ∧ (gL s ≤ nl) ∧ (∀ k, k < nl → WL (L k))
theorem AL.wf {s : Sg} {L : Nat → Lw} {nl : Nat} (x_ : AL s L nl) : WF s := x_.1
theorem AL.n4 {s : Sg} {L : Nat → Lw} {nl : Nat} (x_ : AL s L nl) : nl ≤ 4 := x_.2.1
theorem AL.gl {s : Sg} {L : Nat → Lw} {nl : Nat} (x_ : AL s L nl) : gL s ≤ nl := x_.2.2.1
theorem AL.wl {s : Sg} {L : Nat → Lw} {nl : Nat} (x_ : AL s L nl) : ∀ k, k < nl → WL (L k) := x_.2.2.2
theorem AL.w1 {s : Sg} {L : Nat → Lw} {nl : Nat} (a : AL s L nl) : ∀ k, k + 1 = gL s → WL (L k) := fun k hk => a.wl k (by have := a.gl; omega)
theorem IvR.al {nl : Nat} {B : Nat → Nat} {n : Nat} {I : Nat → Option qa_M} {h : qa_M} (i : IvR nl B n I h) : AL (sg h) (lw h) nl := ⟨i.wf, i.n4, i.gl, i.wl⟩
theorem IC_fr {W : List (Nat × Nat)} {k : Nat} {o : Option qa_M} {h g : qa_M} (i : IC k o h) (f : qfr W h g) (w1 : ∀ j, inW W 12 j = false) (w2 : ∀ b j, 51 + 8 * k ≤ b → b ≤ 51 + 8 * k + 7 → inW W b j = false) : IC k o g := by
  cases o with
  | none => exact (f.1 12 k (w1 k)).1.trans i
  | some h0 => exact ⟨(f.1 12 k (w1 k)).1.trans i.1, RelS_fr i.2 f (fun c j h1 h2 => w2 c j h1 h2)⟩
theorem RS_fr {W : List (Nat × Nat)} {h g : qa_M} (r : RS h) (f : qfr W h g) (w : inW W 40 8 = false) : RS g := by
  have e1 := (f.1 40 8 w).2.2
  have e2 := f.2
  unfold RS LR at r ⊢
  rw [e1, e2]
  exact r
/-- the cells that stay -/
def kpP (b j : Nat) : Prop := (b = 0 ∧ j = 5) ∨ (b = 1 ∧ j = 1) ∨ (2 ≤ b ∧ b ≤ 13) ∨ b = 23 ∨ (b = 40 ∧ j = 8) ∨ (51 ≤ b ∧ b ≤ 82)
theorem PC.fr {W : List (Nat × Nat)} {s : Sg} {L : Nat → Lw} {nl : Nat} {B : Nat → Nat} {n : Nat} {I : Nat → Option qa_M} {h g : qa_M} (p : PC s L nl B n I h) (a : AL s L nl) (f : qfr W h g) (lk : LKeep 4 h g) (w : ∀ b j, kpP b j → inW W b j = false) : PC s L nl B n I g := by
  have n4 := a.n4
  exact ⟨RelS_fr p.rs f (fun c j h1 h2 => w c j (by unfold kpP; omega)), TpC_fr p.tp f (w _ _ (by unfold kpP; omega)) (fun j => w _ _ (by unfold kpP; omega)), (f.1 0 5 (w _ _ (by unfold kpP; omega))).1.trans p.nl, fun k hk => lk k (L k) (by omega) (a.wl k hk) (p.cl k hk), fun k hk => ⟨(f.1 11 k (w _ _ (by unfold kpP; omega))).2.2.trans (p.rf k hk).1, (f.1 13 k (w _ _ (by unfold kpP; omega))).2.2.trans (p.rf k hk).2⟩, fun k hk => IC_fr (p.im k hk) f (fun j => w _ _ (by unfold kpP; omega)) (fun b j h1 h2 => w _ _ (by unfold kpP; omega)), Near_fr p.nt f (fun j => w _ _ (by unfold kpP; omega)), RS_fr p.lr f (w _ _ (by unfold kpP; omega))⟩
theorem FT_frm {W : List (Nat × Nat)} {s : Sg} {L : Nat → Lw} {h g : qa_M} (p : FT s L h) (f : qfr W h g) (w : ∀ j, inW W 35 j = false) : FT s L g := fun T hT => (f.1 35 T (w T)).1.trans (p T hT)
theorem LK_frm {W : List (Nat × Nat)} {s : Sg} {L : Nat → Lw} {S m : Nat} {h g : qa_M} (p : LK s L S m h) (f : qfr W h g) (w0 : inW W 40 0 = false) (w : ∀ b j, 41 ≤ b → b ≤ 43 → inW W b j = false) : LK s L S m g := by
  refine ⟨?_, fun i c hi hc => (f.1 43 _ (w _ _ (by omega) (by omega))).1.trans (p.2 i c hi hc)⟩
  have := p.1
  unfold VR at this ⊢
  refine ⟨(f.1 40 0 w0).1.trans this.1, fun i hi => ⟨(f.1 42 _ (w _ _ (by omega) (by omega))).1.trans (this.2 i hi).1, (f.1 41 _ (w _ _ (by omega) (by omega))).2.1.trans (this.2 i hi).2⟩⟩
theorem PK_frm {W : List (Nat × Nat)} {s : Sg} {L : Nat → Lw} {S : Nat} {h g : qa_M} (p : PK s L S h) (f : qfr W h g) (w0 : inW W 40 7 = false) (w1 : inW W 40 8 = false) (w : ∀ j, inW W 167 j = false) : PK s L S g := by
  obtain ⟨l, e, c⟩ := p
  exact ⟨⟨(f.1 40 8 w1).2.2.trans l.1, f.2.trans l.2⟩, (f.1 40 7 w0).1.trans e, fun i j a d h1 h2 h3 h4 => (f.1 167 _ (w _)).1.trans (c i j a d h1 h2 h3 h4)⟩
