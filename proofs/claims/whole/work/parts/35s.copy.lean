/-! IMAGES: the class copies -/
theorem fr_copy3 {a0 a1 : Nat} {h z : qa_M} (E : m_X3_copy a0 a1 h = some z) : qfr [(a0, 0), (a0 + 1, 0), (a0 + 2, 0), (a0 + 3, 0), (a0 + 4, 0), (a0 + 5, 0)] h z := by
  unfold m_X3_copy at E
  simp only [qbd_e] at E
  rw [← Option.some.inj E]
  exact qfr_cI rfl (by simp) (qfr_cJ rfl (by simp) (qfr_cJ rfl (by simp) (qfr_cI rfl (by simp) (qfr_cI rfl (by simp) (qfr_J0 rfl (by simp) (qfr_J0 rfl (by simp) (qfr_I0 rfl (by simp) (qfr_I0 rfl (by simp) (qfr_I0 rfl (by simp) (qfr_I0 rfl (by simp) (qfr_I0 rfl (by simp) (qfr_I0 rfl (by simp) qfr_rf))))))))))))
def wCp (a : Nat) : List (Nat × Nat) := [(a, 0), (a + 1, 0), (a + 2, 0), (a + 3, 0), (a + 4, 0), (a + 5, 0), (a + 6, 0), (a + 7, 0)]
theorem k_copyS {a0 a1 : Nat} {s : Sg} {h : qa_M} (w : WF s) (r : RelS a1 s h) (hap : a0 + 8 ≤ a1 ∨ a1 + 8 ≤ a0) : qW (m_X8_copy a0 a1 h) (fun g => RelS a0 s g ∧ qfr (wCp a0) h g) := by
  have lt := w.t.2
  unfold m_X8_copy
  rw [qW_bv]
  refine qW_fr (k_copyL w r.1 (by omega)) (fun z e => fr_copy3 e) ?_
  intro g rg f
  have f : qfr [(a0 + 1, 0), (a0 + 1 + 1, 0), (a0 + 1 + 2, 0), (a0 + 1 + 3, 0), (a0 + 1 + 4, 0), (a0 + 1 + 5, 0)] h g := f
  have nw : ∀ b j, b < a0 + 1 ∨ a0 + 7 ≤ b → inW [(a0 + 1, 0), (a0 + 1 + 1, 0), (a0 + 1 + 2, 0), (a0 + 1 + 3, 0), (a0 + 1 + 4, 0), (a0 + 1 + 5, 0)] b j = false := fun b j k => by unfold inW; simp; omega
  have k : ∀ b j, b < a0 + 1 ∨ a0 + 7 ≤ b → g.1 b j = h.1 b j := fun b j kk => (f.1 b j (nw b j kk)).1
  simp only [qbd_e]
  rw [qW_some]
  have E1 : ∀ (G : qa_M) (x y : Nat), (qw_cI G (a1 + 7) 0 (a0 + 7) 0 50).1 x y = if x = a0 + 7 ∧ y < 50 then G.1 (a1 + 7) y else G.1 x y := by
    intro G x y
    show (if x = a0 + 7 ∧ 0 ≤ y ∧ y < 0 + 50 then G.1 (a1 + 7) (0 + (y - 0)) else G.1 x y) = _
    by_cases q : x = a0 + 7 ∧ y < 50
    · rw [if_pos q, if_pos ⟨q.1, by omega, by omega⟩, Nat.sub_zero, Nat.zero_add]
    · rw [if_neg q, if_neg (fun z => q ⟨z.1, by omega⟩)]
  obtain ⟨g1, hg1⟩ : ∃ g1, g1 = qw_I g a0 1 (g.1 a1 1) := ⟨_, rfl⟩
  rw [← hg1]
  obtain ⟨g2, hg2⟩ : ∃ g2, g2 = qw_cI g1 (a1 + 7) 0 (a0 + 7) 0 50 := ⟨_, rfl⟩
  rw [← hg2]
  obtain ⟨g3, hg3⟩ : ∃ g3, g3 = qw_I g2 a0 3 (g2.1 a1 3) := ⟨_, rfl⟩
  rw [← hg3]
  obtain ⟨g4, hg4⟩ : ∃ g4, g4 = qw_I g3 a0 4 (g3.1 a1 4) := ⟨_, rfl⟩
  rw [← hg4]
  have f4 : qfr [(a0, 0), (a0 + 7, 0)] g g4 := by
    rw [hg4, hg3, hg2, hg1]
    exact qfr_I0 rfl (by simp) (qfr_I0 rfl (by simp) (qfr_cI rfl (by simp) (qfr_I0 rfl (by simp) qfr_rf)))
  have m2 : ∀ x y, x ≠ a0 + 7 → g2.1 x y = g1.1 x y := fun x y hx => by rw [hg2, E1, if_neg (fun q => hx q.1)]
  have m1 : ∀ x y, x ≠ a0 → g1.1 x y = g.1 x y := fun x y hx => by rw [hg1, wI_ne (fun q => hx q.1)]
  have m3 : ∀ x y, x ≠ a0 → g3.1 x y = g2.1 x y := fun x y hx => by rw [hg3, wI_ne (fun q => hx q.1)]
  refine ⟨⟨?_, ?_, ?_, ?_, ?_⟩, ?_⟩
  · exact RelL_fr rg (fun b j h1 h2 => (f4.1 b j (by unfold inW; simp; omega)).1) (fun b j h1 h2 => (f4.1 b j (by unfold inW; simp; omega)).2.1)
  · rw [hg4, wI_ne (by omega), hg3, wI_ne (by omega), m2 _ _ (by omega), hg1, wI_at, k _ _ (by omega)]
    exact r.2.1
  · intro m c hm hc
    rw [hg4, wI_ne (by omega), m3 _ _ (by omega), hg2, E1, if_pos ⟨rfl, by omega⟩, m1 _ _ (by omega), k _ _ (by omega)]
    exact r.2.2.1 m c hm hc
  · rw [hg4, wI_ne (by omega), hg3, wI_at, m2 _ _ (by omega), m1 _ _ (by omega), k _ _ (by omega)]
    exact r.2.2.2.1
  · rw [hg4, wI_at, m3 _ _ (by omega), m2 _ _ (by omega), m1 _ _ (by omega), k _ _ (by omega)]
    exact r.2.2.2.2
  · refine qfr_tr (qfr_sub ?_ f) (qfr_sub ?_ f4)
    · exact qsub_c (by simp [wCp]) (qsub_c (by simp [wCp]) (qsub_c (by simp [wCp]) (qsub_c (by simp [wCp]) (qsub_c (by simp [wCp]) (qsub_c (by simp [wCp]) qsub_nil)))))
    · exact qsub_c (by simp [wCp]) (qsub_c (by simp [wCp]) qsub_nil)
def upI (I : Nat → Option qa_M) (k : Nat) (o : Option qa_M) : Nat → Option qa_M := fun i => if i = k then o else I i
def aIm (s : Sg) (x : Int32) : Int32 := if wiN x 4 then s 0 5 else -1
def iIm (I : Nat → Option qa_M) (h0 : qa_M) (x : Int32) : Nat → Option qa_M := if wiN x 4 then upI I (cN x) (some h0) else I
theorem k_aIm {s : Sg} {L : Nat → Lw} {nl : Nat} {B : Nat → Nat} {n : Nat} {I : Nat → Option qa_M} {v : Nat} {h h0 : qa_M} {x : Int32} (a : AL s L nl) (i : IvC s L nl B n I v h) (e0 : sg h0 = s) : qW (m_X11_image x h) (fun z => z.1 = aIm s x ∧ IvC s L nl B n (iIm I h0 x) v z.2) := by
  unfold m_X11_image aIm iIm
  rw [show (4 : Int32) = nn 4 from rfl, k_wi (by omega), qbn_s]
  by_cases c : wiN x 4 = true
  · obtain ⟨k, hk, hk2, e⟩ := wiN_t c
    rw [c, if_neg (by decide), if_pos rfl, if_pos rfl, e, qck_nn hk (by omega), nn_cl (by omega), (i.1.rf k hk).1, qnn_s, qpr_t (by omega), cN_nn hk2, qW_bv]
    refine qW_mono (k_copyS (a0 := 51 + 8 * k) a.wf i.1.rs (by omega)) ?_
    rintro g ⟨rg, f⟩
    rw [qck_nn hk (by omega), qbd_e, qW_some]
    have f2 : qfr [(12, k + 1)] g (qw_I g 12 k 1) := qfr_Ik rfl (by simp) qfr_rf
    have w1 : ∀ b j, b < 51 + 8 * k ∨ 51 + 8 * k + 8 ≤ b → inW (wCp (51 + 8 * k)) b j = false := fun b j kk => by unfold wCp inW; simp; omega
    have w2 : ∀ b j, b ≠ 12 → inW [(12, k + 1)] b j = false := fun b j kk => by unfold inW; simp; omega
    have n4 := a.n4
    have lk : LKeep 4 h (qw_I g 12 k 1) := LKeep.tr (LKeep_fr f (fun b j h1 h2 => w1 _ _ (by omega)) (by omega)) (LKeep_fr f2 (fun b j h1 h2 => w2 _ _ (by omega)) (by omega))
    have r3 : RelS 3 s (qw_I g 12 k 1) := RelS_fr (RelS_fr i.1.rs f (fun c j h1 h2 => w1 _ _ (by omega))) f2 (fun c j h1 h2 => w2 _ _ (by omega))
    refine ⟨r3.2.1, ⟨r3, TpC_fr (TpC_fr i.1.tp f (w1 _ _ (by omega)) (fun j => w1 _ _ (by omega))) f2 (w2 _ _ (by omega)) (fun j => w2 _ _ (by omega)), ?_, fun m hm => lk m (L m) (by omega) (a.wl m hm) (i.1.cl m hm), fun m hm => ⟨?_, ?_⟩, fun m hm => ?_, Near_fr (Near_fr i.1.nt f (fun j => w1 _ _ (by omega))) f2 (fun j => w2 _ _ (by omega)), RS_fr (RS_fr i.1.lr f (w1 _ _ (by omega))) f2 (w2 _ _ (by omega))⟩, (i.2.fr f (fun b j kk => w1 _ _ (by unfold kpV at kk; omega))).fr f2 (fun b j kk => w2 _ _ (by unfold kpV at kk; omega))⟩
    · rw [(f2.1 0 5 (w2 _ _ (by omega))).1, (f.1 0 5 (w1 _ _ (by omega))).1]; exact i.1.nl
    · rw [(f2.1 11 m (w2 _ _ (by omega))).2.2, (f.1 11 m (w1 _ _ (by omega))).2.2]; exact (i.1.rf m hm).1
    · rw [(f2.1 13 m (w2 _ _ (by omega))).2.2, (f.1 13 m (w1 _ _ (by omega))).2.2]; exact (i.1.rf m hm).2
    · unfold upI
      by_cases cm : m = k
      · rw [if_pos cm, cm]
        exact ⟨wI_at, by rw [e0]; exact RelS_fr rg f2 (fun c j h1 h2 => w2 _ _ (by omega))⟩
      · rw [if_neg cm]
        have := i.1.im m hm
        cases q : I m with
        | none =>
          rw [q] at this
          show (qw_I g 12 k 1).1 12 m = 0
          rw [wI_ne (by omega), (f.1 12 m (w1 _ _ (by omega))).1]; exact this
        | some hm0 =>
          rw [q] at this
          refine ⟨?_, RelS_fr (RelS_fr this.2 f (fun c j h1 h2 => w1 _ _ (by omega))) f2 (fun c j h1 h2 => w2 _ _ (by omega))⟩
          rw [wI_ne (by omega), (f.1 12 m (w1 _ _ (by omega))).1]; exact this.1
  · rw [Bool.not_eq_true] at c
    rw [c, if_pos bi_f, if_neg (by decide), if_neg (by decide), qW_some]; exact ⟨rfl, i⟩
/-- what the image brings back -/
def aBk (I : Nat → Option qa_M) (x : Int32) : Int32 := if wiN x 4 then (match I (cN x) with
  | none => -1
  | some h0 => sg h0 0 5) else -1
def sBk (I : Nat → Option qa_M) (s : Sg) (x : Int32) : Sg := if wiN x 4 then (match I (cN x) with
  | none => s
  | some h0 => sg h0) else s
theorem k_aBk {s : Sg} {L : Nat → Lw} {nl : Nat} {B : Nat → Nat} {n : Nat} {I : Nat → Option qa_M} {v : Nat} {h : qa_M} {x : Int32} (a : AL s L nl) (i : IvC s L nl B n I v h) (hv : v + 1 < 2147483648) (hw : ∀ k h0, k < 4 → I k = some h0 → WF (sg h0)) : qW (m_X11_back x h) (fun z => z.1 = aBk I x ∧ ∃ v2, v2 ≤ v + 1 ∧ IvC (sBk I s x) L nl B n I v2 z.2) := by
  unfold m_X11_back aBk sBk
  rw [show (4 : Int32) = nn 4 from rfl, k_wi (by omega), qbn_s]
  by_cases c : wiN x 4 = true
  · obtain ⟨k, hk, hk2, e⟩ := wiN_t c
    have im := i.1.im k hk
    rw [c, if_neg (by decide), if_pos rfl, if_pos rfl, e, qck_nn hk (by omega), nn_cl (by omega), cN_nn hk2]
    cases q : I k with
    | none =>
      rw [q] at im
      have im : h.1 12 k = 0 := im
      rw [if_pos im, qW_some]; exact ⟨rfl, v, by omega, i⟩
    | some h0 =>
      rw [q] at im
      rw [if_neg (by rw [im.1]; decide), qck_nn hk (by omega), (i.1.rf k hk).1, qnn_s, qpr_t (by omega), qW_bv]
      refine qW_mono (k_copyS (a0 := 3) (hw k h0 hk q) im.2 (by omega)) ?_
      rintro g ⟨rg, f⟩
      have f : qfr (wCp 3) h g := f
      rw [qbd_e, qW_some]
      have e13 : g.1 0 13 = nn v := (f.1 0 13 rfl).1.trans i.2.vs
      rw [e13, nn_add1]
      have f2 : qfr [(0, 14)] g (qw_I g 0 13 (nn (v + 1))) := qfr_Ik rfl (by simp) qfr_rf
      have f3 : qfr ((0, 14) :: wCp 3) h (qw_I g 0 13 (nn (v + 1))) := qfr_tr (qfr_sub qsub_t f) (qfr_sub (qsub_c (by simp) qsub_nil) f2)
      have r2 := RelS_fr rg f2 (fun c j h1 h2 => by unfold inW; simp; omega)
      exact ⟨r2.2.1, v + 1, Nat.le_refl _, i.1.to a f3 r2 (fun b j kk => by unfold wCp inW; simp; omega), i.2.bump hv wI_at (f3.1 0 14 rfl).1 (f3.1 34 0 rfl).1 (f3.1 40 4 rfl).1 (f3.1 40 12 rfl).1⟩
  · rw [Bool.not_eq_true] at c
    rw [c, if_pos bi_f, if_neg (by decide), if_neg (by decide), qW_some]; exact ⟨rfl, v, by omega, i⟩
