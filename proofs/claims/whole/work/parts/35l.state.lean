/-! CALLS THAT CHANGE WHAT STANDS -/
theorem IR_fr {W : List (Nat × Nat)} {k nl : Nat} {o : Option qa_M} {h g : qa_M} (i : IR k nl o h) (f : qfr W h g) (w : ∀ b j, 165 ≤ b → b ≤ 166 → inW W b j = false) : IR k nl o g := by
  cases o with
  | none => exact (f.1 166 k (w _ _ (by omega) (by omega))).1.trans i
  | some h0 => exact ⟨(f.1 166 k (w _ _ (by omega) (by omega))).1.trans i.1, i.2.1, i.2.2.1, i.2.2.2.1, fun a j h1 h2 => (f.1 165 _ (w _ _ (by omega) (by omega))).1.trans (i.2.2.2.2 a j h1 h2)⟩
def kpR (b j : Nat) : Prop := (b = 119 ∧ (j = 20 ∨ j = 24 ∨ j = 29)) ∨ (139 ≤ b ∧ b ≤ 147) ∨ b = 165 ∨ b = 166
theorem IvR.keep {W : List (Nat × Nat)} {nl : Nat} {B : Nat → Nat} {n : Nat} {I : Nat → Option qa_M} {h g : qa_M} (i : IvR nl B n I h) (f : qfr W h g) (w : ∀ b j, kpR b j → inW W b j = false) (wf : WF (sg g)) (ob : OB g) (gl : gL (sg g) ≤ nl) : IvR nl B n I g ∧ lw g = lw h := by
  have el : lw g = lw h := lw_fr f (fun b j h1 h2 => w _ _ (by unfold kpR; omega))
  exact ⟨⟨wf, ob, TpR_fr i.tp f (w _ _ (by unfold kpR; omega)) (fun j => w _ _ (by unfold kpR; omega)), (f.1 119 24 (w _ _ (by unfold kpR; omega))).1.trans i.nl, i.n4, gl, fun k hk => by rw [el]; exact i.wl k hk, (f.1 119 29 (w _ _ (by unfold kpR; omega))).1.trans i.s7, fun k hk => IR_fr (i.im k hk) f (fun b j h1 h2 => w _ _ (by unfold kpR; omega))⟩, el⟩
theorem IvR.same {W : List (Nat × Nat)} {nl : Nat} {B : Nat → Nat} {n : Nat} {I : Nat → Option qa_M} {h g : qa_M} (i : IvR nl B n I h) (f : qfr W h g) (w : ∀ b j, kpR b j ∨ (120 ≤ b ∧ b ≤ 131) → inW W b j = false) : IvR nl B n I g ∧ lw g = lw h ∧ sg g = sg h := by
  have es : sg g = sg h := sg_fr f (fun b j h1 h2 => w _ _ (.inr ⟨h1, h2⟩))
  have := i.keep f (fun b j k => w b j (.inl k)) (by rw [es]; exact i.wf) (fun a j h1 h2 => (f.1 _ j (w _ _ (.inr (by omega)))).1.trans (i.ob a j h1 h2)) (by rw [es]; exact i.gl)
  exact ⟨this.1, this.2, es⟩
theorem sg_big {h : qa_M} {i j : Nat} (hi : 12 ≤ i) : sg h i j = 0 := by
  obtain ⟨d, rfl⟩ : ∃ d, i = d + 12 := ⟨i - 12, by omega⟩
  rfl
theorem sg_w {h : qa_M} {i j : Nat} {v : Int32} (hi : i < 12) : sg (qw_I h (120 + i) j v) = upS (sg h) i j v := by
  funext a b
  by_cases c : a < 12
  · rw [sg_row c]
    by_cases e : a = i ∧ b = j
    · obtain ⟨rfl, rfl⟩ := e
      rw [wI_at, upS_at]
    · rw [wI_ne (by omega), upS_ne e, sg_row c]
  · rw [sg_big (by omega), upS_ne (by omega), sg_big (by omega)]
theorem CV.bump {s t : Sg} {L M : Nat → Lw} {v : Nat} {h g : qa_M} (c : CV s L v h) (hv : v + 1 < 2147483648) (e0 : g.1 0 13 = nn (v + 1)) (e1 : g.1 0 14 = h.1 0 14) (e2 : g.1 34 0 = h.1 34 0) (e3 : g.1 40 4 = h.1 40 4) (e4 : g.1 40 12 = h.1 40 12) : CV t M (v + 1) g := ⟨e0, by rw [e1]; exact VC_up c.sp hv, by rw [e2]; exact VC_up c.ft hv, by rw [e3]; exact VC_up c.lk hv, by rw [e4]; exact VC_up c.pk hv⟩
/-- the class's side, another state -/
theorem PC.to {W : List (Nat × Nat)} {s t : Sg} {L : Nat → Lw} {nl : Nat} {B : Nat → Nat} {n : Nat} {I : Nat → Option qa_M} {h g : qa_M} (p : PC s L nl B n I h) (a : AL s L nl) (f : qfr W h g) (r : RelS 3 t g) (w : ∀ b j, (b = 0 ∧ j = 5) ∨ (b = 1 ∧ j = 1) ∨ b = 2 ∨ (11 ≤ b ∧ b ≤ 13) ∨ b = 23 ∨ (b = 40 ∧ j = 8) ∨ (51 ≤ b ∧ b ≤ 118) → inW W b j = false) : PC t L nl B n I g := by
  have n4 := a.n4
  have lk : LKeep 4 h g := LKeep_fr f (fun b j h1 h2 => w _ _ (by omega)) (by omega)
  exact ⟨r, TpC_fr p.tp f (w _ _ (by omega)) (fun j => w _ _ (by omega)), (f.1 0 5 (w _ _ (by omega))).1.trans p.nl, fun k hk => lk k (L k) (by omega) (a.wl k hk) (p.cl k hk), fun k hk => ⟨(f.1 11 k (w _ _ (by omega))).2.2.trans (p.rf k hk).1, (f.1 13 k (w _ _ (by omega))).2.2.trans (p.rf k hk).2⟩, fun k hk => IC_fr (p.im k hk) f (fun j => w _ _ (by omega)) (fun b j h1 h2 => w _ _ (by omega)), Near_fr p.nt f (fun j => w _ _ (by omega)), RS_fr p.lr f (w _ _ (by omega))⟩
/-! STANDS -/
def sdOK (nl : Nat) (x : Int32) : Bool := decide (-1 ≤ x.toInt ∧ x.toInt < (nl : Int))
theorem sd_iff {nl : Nat} {x : Int32} : sdOK nl x = true ↔ (-1 ≤ x.toInt ∧ x.toInt < (nl : Int)) := by unfold sdOK; rw [decide_eq_true_eq]
def aSd (s : Sg) (nl : Nat) (x : Int32) : Int32 := if sdOK nl x then s 0 6 - 1 else -2
def sSd (s : Sg) (nl : Nat) (x : Int32) : Sg := if sdOK nl x then upS s 0 6 (x + 1) else s
theorem sd_nn {nl : Nat} {x : Int32} (h : sdOK nl x = true) (h4 : nl ≤ 4) : ∃ m, m ≤ nl ∧ x + 1 = nn m := by
  rw [sd_iff] at h
  by_cases c : 0 ≤ x.toInt
  · obtain ⟨m, hm, e⟩ := nn_of c
    have h2 := h.2
    rw [e, nn_toInt hm] at h2
    exact ⟨m + 1, by omega, by rw [e, nn_add1]⟩
  · refine ⟨0, Nat.zero_le _, ?_⟩
    have : x = -1 := by
      rw [← Int32.toInt_inj, show (-1 : Int32).toInt = -1 from rfl]
      omega
    rw [this]; rfl
theorem AgS_up {s : Sg} {j : Nat} {v : Int32} (hj : 5 ≤ j) : AgS (upS s 0 j v) s := fun a b h1 h2 => upS_ne (fun q => by obtain ⟨rfl, rfl⟩ := q; have : b < 5 := h2; omega)
theorem k_aSd {s : Sg} {L : Nat → Lw} {nl : Nat} {B : Nat → Nat} {n : Nat} {I : Nat → Option qa_M} {v : Nat} {h : qa_M} {x : Int32} (a : AL s L nl) (i : IvC s L nl B n I v h) (hv : v + 1 < 2147483648) : qW (m_X11_stands x h) (fun z => z.1 = aSd s nl x ∧ ∃ v2, v2 ≤ v + 1 ∧ IvC (sSd s nl x) L nl B n I v2 z.2) := by
  have n4 := a.n4
  unfold m_X11_stands aSd sSd
  have m1 : (x < (-1 : Int32)) ↔ x.toInt < -1 := by rw [Int32.lt_iff_toInt_lt, show (-1 : Int32).toInt = -1 from rfl]
  rw [i.1.nl]
  by_cases c : sdOK nl x = true
  · have c2 := c
    rw [sd_iff] at c2
    rw [if_neg (by rw [m1]; omega), if_pos (by rw [Int32.lt_iff_toInt_lt, nn_toInt (by omega)]; omega), if_pos c, if_pos c, qbd_e, qbd_e, qbd_e, qW_some]
    obtain ⟨g, hg⟩ : ∃ g, g = qw_I (qw_I h 3 3 x) 0 13 ((qw_I h 3 3 x).1 0 13 + 1) := ⟨_, rfl⟩
    rw [← hg]
    have f : qfr [(0, 14), (3, 4)] h g := by rw [hg]; exact qfr_Ik rfl (by simp) (qfr_Ik rfl (by simp) qfr_rf)
    refine ⟨i.1.rs.2.2.2.1, v + 1, Nat.le_refl _, i.1.to a f ⟨?_, ?_, ?_, ?_, ?_⟩ (fun b j k => by unfold inW; simp; omega), i.2.bump hv ?_ (f.1 0 14 rfl).1 (f.1 34 0 rfl).1 (f.1 40 4 rfl).1 (f.1 40 12 rfl).1⟩
    · exact (AgS_up (by omega)).rel a.wf (RelL_fr i.1.rs.1 (fun b j h1 h2 => (f.1 b j (by unfold inW; simp; omega)).1) (fun b j h1 h2 => (f.1 b j (by unfold inW; simp; omega)).2.1))
    · rw [upS_ne (by omega), (f.1 3 1 rfl).1]; exact i.1.rs.2.1
    · intro m k hm hk
      rw [upS_ne (by omega), (f.1 _ _ (by unfold inW; simp)).1]
      exact i.1.rs.2.2.1 m k hm hk
    · rw [upS_at, hg, wI_ne (by omega), wI_at, Int32.add_sub_cancel]
    · rw [upS_ne (by omega), (f.1 3 4 rfl).1]; exact i.1.rs.2.2.2.2
    · rw [hg, wI_at, wI_ne (by omega), i.2.vs, nn_add1]
  · rw [if_neg c, if_neg c]
    have c2 := c
    rw [sd_iff] at c2
    by_cases c1 : x.toInt < -1
    · rw [if_pos (m1.mpr c1), qW_some]; exact ⟨rfl, v, by omega, i⟩
    · rw [if_neg (fun q => c1 (m1.mp q)), if_neg (by rw [Int32.lt_iff_toInt_lt, nn_toInt (by omega)]; omega), qW_some]; exact ⟨rfl, v, by omega, i⟩
theorem r_aSd {nl : Nat} {B : Nat → Nat} {n : Nat} {I : Nat → Option qa_M} {h : qa_M} {x : Int32} (i : IvR nl B n I h) : qW (m_X12_stands x h) (fun z => z.1 = aSd (sg h) nl x ∧ IvR nl B n I z.2 ∧ lw z.2 = lw h ∧ sg z.2 = sSd (sg h) nl x) := by
  have n4 := i.n4
  have b16 : sdOK nl x = true → qW (f_X12_stands_b16 x h) (fun z => z.1 = aSd (sg h) nl x ∧ IvR nl B n I z.2 ∧ lw z.2 = lw h ∧ sg z.2 = sSd (sg h) nl x) := by
    intro c
    obtain ⟨m, hm, e⟩ := sd_nn c n4
    unfold f_X12_stands_b16 aSd sSd
    rw [if_pos c, if_pos c, qck_ok (i := 6) (by decide), show (6 : Int32).toNatClampNeg = 6 from rfl, qbd_e, qck_ok (i := 6) (by decide), qbd_e, qW_some]
    have f : qfr [(120, 7)] h (qw_I h 120 6 (x + 1)) := qfr_Ik rfl (by simp) qfr_rf
    have es : sg (qw_I h 120 6 (x + 1)) = upS (sg h) 0 6 (x + 1) := sg_w (i := 0) (by omega)
    have wf : WF (upS (sg h) 0 6 (x + 1)) := (AgS_up (s := sg h) (j := 6) (v := x + 1) (by omega)).wf i.wf (by rw [upS_ne (by omega)]; exact i.wf.1.2.2.2.2.2.1) (by rw [upS_at]; exact ⟨m, by omega, e⟩) (by rw [upS_ne (by omega)]; exact i.wf.1.2.2.2.2.2.2.2) (fun k hk => by
      have hk : k < gT (sg h) := hk
      have := i.wf.2.2.2.2.2.1 k hk
      exact this) (fun q => (i.wf.2.2.2.2.2.2 q).2.2.2.2)
    have := i.keep f (fun b j k => by unfold kpR at k; unfold inW; simp; omega) (by rw [es]; exact wf) (fun a j h1 h2 => by
      rw [wI_ne (fun q => by obtain ⟨q1, q2⟩ := q; have : a = 0 := by omega
                             subst this; have : 8 ≤ j := h2; omega)]
      exact i.ob a j h1 h2) (by
      rw [es]
      show cN (upS (sg h) 0 6 (x + 1) 0 6) ≤ nl
      rw [upS_at, e, cN_nn (by omega)]
      exact hm)
    exact ⟨rfl, this.1, this.2, es⟩
  unfold m_X12_stands
  by_cases c1 : x = -1
  · rw [if_pos c1]
    exact b16 (by rw [c1, sd_iff, show (-1 : Int32).toInt = -1 from rfl]; omega)
  · rw [if_neg c1]
    unfold m_X12_isLaw
    rw [i.nl, r_wi (by omega), qbn_s, qpr_t bi_01, qbn_s]
    by_cases c2 : wiN x nl = true
    · rw [c2, if_neg (by decide)]
      unfold wiN at c2
      rw [decide_eq_true_eq] at c2
      exact b16 (by rw [sd_iff]; omega)
    · have c : ¬ sdOK nl x = true := by
        rw [sd_iff]
        unfold wiN at c2
        rw [decide_eq_true_eq] at c2
        have : x.toInt ≠ -1 := fun q => c1 (by rw [← Int32.toInt_inj, q]; rfl)
        omega
      rw [Bool.not_eq_true] at c2
      rw [c2, if_pos bi_f, qW_some]
      unfold aSd sSd
      rw [if_neg c, if_neg c]
      exact ⟨rfl, i, rfl, rfl⟩
