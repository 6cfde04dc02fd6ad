/-! IMAGES: the reference's two calls -/
theorem r_all0 {k : Nat} {h : qa_M} (hk : k < 4) : qW (m_X12_carriesAll (nn k) 0 h) (CS0 k 12 h) := by
  unfold m_X12_carriesAll
  rw [show (130 : Int32) = nn 130 from rfl, nn_mul, qbd_e, qpr_t (.inl rfl), qbd_e]
  have b : CS0 k 0 h (qw_I (qw_I h 119 62 (nn (130 * k))) 119 63 0) := ⟨by rw [wI_ne (by omega), wI_at]; rfl, wI_at, fun a j h1 => absurd h1 (Nat.not_lt_zero _), fun j hj => by rw [wI_ne (by omega), wI_ne (by omega)], qfr_Ik rfl (by simp) (qfr_Ik rfl (by simp) qfr_rf)⟩
  rw [qW_bv]
  refine qW_mono (CS0_st (i := 0) hk (by omega) (fun g => wl_120 g) b) (fun g1 c1 => ?_)
  rw [qW_bv]
  refine qW_mono (CS0_st (i := 1) hk (by omega) (fun g => wl_121 g) c1) (fun g2 c2 => ?_)
  rw [qW_bv]
  refine qW_mono (CS0_st (i := 2) hk (by omega) (fun g => wl_122 g) c2) (fun g3 c3 => ?_)
  rw [qW_bv]
  refine qW_mono (CS0_st (i := 3) hk (by omega) (fun g => wl_123 g) c3) (fun g4 c4 => ?_)
  rw [qW_bv]
  refine qW_mono (CS0_st (i := 4) hk (by omega) (fun g => wl_124 g) c4) (fun g5 c5 => ?_)
  rw [qW_bv]
  refine qW_mono (CS0_st (i := 5) hk (by omega) (fun g => wl_125 g) c5) (fun g6 c6 => ?_)
  rw [qW_bv]
  refine qW_mono (CS0_st (i := 6) hk (by omega) (fun g => wl_126 g) c6) (fun g7 c7 => ?_)
  rw [qW_bv]
  refine qW_mono (CS0_st (i := 7) hk (by omega) (fun g => wl_127 g) c7) (fun g8 c8 => ?_)
  rw [qW_bv]
  refine qW_mono (CS0_st (i := 8) hk (by omega) (fun g => wl_128 g) c8) (fun g9 c9 => ?_)
  rw [qW_bv]
  refine qW_mono (CS0_st (i := 9) hk (by omega) (fun g => wl_129 g) c9) (fun g10 c10 => ?_)
  rw [qW_bv]
  refine qW_mono (CS0_st (i := 10) hk (by omega) (fun g => wl_130 g) c10) (fun g11 c11 => ?_)
  rw [qW_bv]
  refine qW_mono (CS0_st (i := 11) hk (by omega) (fun g => wl_131 g) c11) (fun g12 c12 => ?_)
  rw [qW_some]
  exact c12
theorem r_all1 {k : Nat} {h : qa_M} (hk : k < 4) : qW (m_X12_carriesAll (nn k) 1 h) (CS1 k 12 h) := by
  unfold m_X12_carriesAll
  rw [show (130 : Int32) = nn 130 from rfl, nn_mul, qbd_e, qpr_t (.inr rfl), qbd_e]
  have b : CS1 k 0 h (qw_I (qw_I h 119 62 (nn (130 * k))) 119 63 1) := ⟨by rw [wI_ne (by omega), wI_at]; rfl, wI_at, fun a j h1 => absurd h1 (Nat.not_lt_zero _), fun a j h1 h2 => by rw [wI_ne (by omega), wI_ne (by omega)], qfr_Ik rfl (by simp) (qfr_Ik rfl (by simp) qfr_rf)⟩
  rw [qW_bv]
  refine qW_mono (CS1_st (i := 0) hk (by omega) (fun g => wl_120 g) (by simp) b) (fun g1 c1 => ?_)
  rw [qW_bv]
  refine qW_mono (CS1_st (i := 1) hk (by omega) (fun g => wl_121 g) (by simp) c1) (fun g2 c2 => ?_)
  rw [qW_bv]
  refine qW_mono (CS1_st (i := 2) hk (by omega) (fun g => wl_122 g) (by simp) c2) (fun g3 c3 => ?_)
  rw [qW_bv]
  refine qW_mono (CS1_st (i := 3) hk (by omega) (fun g => wl_123 g) (by simp) c3) (fun g4 c4 => ?_)
  rw [qW_bv]
  refine qW_mono (CS1_st (i := 4) hk (by omega) (fun g => wl_124 g) (by simp) c4) (fun g5 c5 => ?_)
  rw [qW_bv]
  refine qW_mono (CS1_st (i := 5) hk (by omega) (fun g => wl_125 g) (by simp) c5) (fun g6 c6 => ?_)
  rw [qW_bv]
  refine qW_mono (CS1_st (i := 6) hk (by omega) (fun g => wl_126 g) (by simp) c6) (fun g7 c7 => ?_)
  rw [qW_bv]
  refine qW_mono (CS1_st (i := 7) hk (by omega) (fun g => wl_127 g) (by simp) c7) (fun g8 c8 => ?_)
  rw [qW_bv]
  refine qW_mono (CS1_st (i := 8) hk (by omega) (fun g => wl_128 g) (by simp) c8) (fun g9 c9 => ?_)
  rw [qW_bv]
  refine qW_mono (CS1_st (i := 9) hk (by omega) (fun g => wl_129 g) (by simp) c9) (fun g10 c10 => ?_)
  rw [qW_bv]
  refine qW_mono (CS1_st (i := 10) hk (by omega) (fun g => wl_130 g) (by simp) c10) (fun g11 c11 => ?_)
  rw [qW_bv]
  refine qW_mono (CS1_st (i := 11) hk (by omega) (fun g => wl_131 g) (by simp) c11) (fun g12 c12 => ?_)
  rw [qW_some]
  exact c12
theorem off_in : ∀ i, i < 12 → off12 i + len12 i ≤ 126 := by decide
theorem r_aIm {nl : Nat} {B : Nat → Nat} {n : Nat} {I : Nat → Option qa_M} {h : qa_M} {x : Int32} (i : IvR nl B n I h) : qW (m_X12_image x h) (fun z => z.1 = aIm (sg h) x ∧ IvR nl B n (iIm I h x) z.2 ∧ lw z.2 = lw h ∧ sg z.2 = sg h) := by
  unfold m_X12_image aIm iIm
  rw [r_wc (n := 4) (by decide), qbn_s]
  by_cases c : wiN x 4 = true
  · obtain ⟨k, hk, hk2, e⟩ := wiN_t c
    rw [c, if_neg (by decide), if_pos rfl, if_pos rfl, e, qck_nn hk (by omega), nn_cl (by omega), cN_nn hk2, qbd_e, qW_bv]
    refine qW_mono (r_all0 (h := qw_I h 166 k 1) hk) ?_
    rintro g ⟨-, -, c3, c4, f⟩
    rw [qck_ok (i := 5) (by decide), show (5 : Int32).toNatClampNeg = 5 from rfl, qW_some]
    have f0 : qfr [(166, k + 1)] h (qw_I h 166 k 1) := qfr_Ik rfl (by simp) qfr_rf
    have fh : qfr [(119, 63), (119, 64), (165, 0), (166, k + 1)] h g := qfr_tr (qfr_sub (qsub_c (by simp) qsub_nil) f0) (qfr_sub (qsub_c (by simp) (qsub_c (by simp) (qsub_c (by simp) qsub_nil))) f)
    have es : sg g = sg h := sg_fr fh (fun b j h1 h2 => by unfold inW; simp; omega)
    have el : lw g = lw h := lw_fr fh (fun b j h1 h2 => by unfold inW; simp; omega)
    have ob : OB g := fun a j h1 h2 => (fh.1 _ j (by unfold inW; simp; omega)).1.trans (i.ob a j h1 h2)
    refine ⟨congrFun (congrFun es 0) 5, ⟨by rw [es]; exact i.wf, ob, TpR_fr i.tp fh (by unfold inW; simp) (fun j => by unfold inW; simp), (fh.1 119 24 (by unfold inW; simp)).1.trans i.nl, i.n4, by rw [es]; exact i.gl, fun m hm => by rw [el]; exact i.wl m hm, (fh.1 119 29 (by unfold inW; simp)).1.trans i.s7, fun m hm => ?_⟩, el, es⟩
    unfold upI
    by_cases cm : m = k
    · rw [if_pos cm, cm]
      refine ⟨?_, i.wf, i.ob, i.gl, fun a j h1 h2 => ?_⟩
      · rw [(f.1 166 k rfl).1, wI_at]
      · rw [c3 a j h1 h2, wI_ne (by omega)]
    · rw [if_neg cm]
      have im := i.im m hm
      have e6 : g.1 166 m = h.1 166 m := by rw [(f.1 166 m rfl).1, wI_ne (by omega)]
      cases q : I m with
      | none => rw [q] at im; exact e6.trans im
      | some h0 =>
        rw [q] at im
        refine ⟨e6.trans im.1, im.2.1, im.2.2.1, im.2.2.2.1, fun a j h1 h2 => ?_⟩
        have := off_in a h1
        rw [c4 _ (by omega), wI_ne (by omega)]
        exact im.2.2.2.2 a j h1 h2
  · rw [Bool.not_eq_true] at c
    rw [c, if_pos bi_f, if_neg (by decide), if_neg (by decide), qW_some]; exact ⟨rfl, i, rfl, rfl⟩
theorem r_aBk {nl : Nat} {B : Nat → Nat} {n : Nat} {I : Nat → Option qa_M} {h : qa_M} {x : Int32} (i : IvR nl B n I h) : qW (m_X12_back x h) (fun z => z.1 = aBk I x ∧ IvR nl B n I z.2 ∧ lw z.2 = lw h ∧ sg z.2 = sBk I (sg h) x) := by
  unfold m_X12_back aBk sBk
  rw [r_wc (n := 4) (by decide), qbn_s]
  by_cases c : wiN x 4 = true
  · obtain ⟨k, hk, hk2, e⟩ := wiN_t c
    have im := i.im k hk
    rw [c, if_neg (by decide), if_pos rfl, if_pos rfl, e, qck_nn hk (by omega), nn_cl (by omega), cN_nn hk2]
    cases q : I k with
    | none =>
      rw [q] at im
      have im : h.1 166 k = 0 := im
      rw [if_pos im, qW_some]; exact ⟨rfl, i, rfl, rfl⟩
    | some h0 =>
      rw [q] at im
      obtain ⟨m1, m2, m3, m4, m5⟩ := im
      rw [if_neg (by rw [m1]; decide), qW_bv]
      refine qW_mono (r_all1 hk) ?_
      rintro g ⟨-, -, c3, c4, f⟩
      rw [qck_ok (i := 5) (by decide), show (5 : Int32).toNatClampNeg = 5 from rfl, qW_some]
      have ob : OB g := fun a j h1 h2 => (c4 a j h1 h2).trans (i.ob a j h1 h2)
      have es : sg g = sg h0 := by
        funext a j
        by_cases ca : a < 12
        · rw [sg_row ca, sg_row ca]
          by_cases cj : j < len12 a
          · rw [c3 a j ca cj]; exact m5 a j ca cj
          · rw [ob a j ca (by omega), m3 a j ca (by omega)]
        · rw [sg_big (by omega), sg_big (by omega)]
      have := i.keep f (fun b j kk => by unfold kpR at kk; unfold inW; simp; omega) (by rw [es]; exact m2) ob (by rw [es]; exact m4)
      exact ⟨congrFun (congrFun es 0) 5, this.1, this.2, es⟩
  · rw [Bool.not_eq_true] at c
    rw [c, if_pos bi_f, if_neg (by decide), if_neg (by decide), qW_some]; exact ⟨rfl, i, rfl, rfl⟩
