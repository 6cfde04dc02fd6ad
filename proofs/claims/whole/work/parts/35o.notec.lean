/-! A NOTE IS TAKEN: the class -/
theorem k_write {s t : Sg} {h : qa_M} {x1 x2 x3 x4 x5 : Int32} (w : WF s) (r : RelS 3 s h) (hT : gT s < 10) : qW (m_X8_write x1 x2 x3 x4 x5 h) (fun g => RelS 3 (sNt0 s x1 x2 x3 x4 x5) g ∧ qfr [(3, 2), (10, 0)] h g) := by
  have e1 : h.1 3 1 = nn (gT s) := r.2.1.trans w.t.1
  have T := gT s
  unfold m_X8_write
  rw [e1, show (5 : Int32) = nn 5 from rfl, nn_mul, qbd_e, show (1 : Int32) = nn 1 from rfl, show (2 : Int32) = nn 2 from rfl, show (3 : Int32) = nn 3 from rfl, show (4 : Int32) = nn 4 from rfl]
  simp only [nn_add]
  rw [qck_nn (by omega) (by omega), qbd_e, nn_cl (by omega), qck_nn (by omega) (by omega), qbd_e, nn_cl (by omega), qck_nn (by omega) (by omega), qbd_e, nn_cl (by omega), qck_nn (by omega) (by omega), qbd_e, nn_cl (by omega), qck_nn (by omega) (by omega), qbd_e, nn_cl (by omega), qbd_e, qW_some]
  rw [wI_ne (by omega), wI_ne (by omega), wI_ne (by omega), wI_ne (by omega), wI_ne (by omega), e1, nn_add]
  obtain ⟨g, hg⟩ : ∃ g, g = qw_I (qw_I (qw_I (qw_I (qw_I (qw_I h 10 (gT s * 5) x1) 10 (gT s * 5 + 1) x2) 10 (gT s * 5 + 2) x3) 10 (gT s * 5 + 3) x4) 10 (gT s * 5 + 4) x5) 3 1 (nn (gT s + 1)) := ⟨_, rfl⟩
  rw [← hg]
  have f : qfr [(3, 2), (10, 0)] h g := by
    rw [hg]
    exact qfr_Ik rfl (by simp) (qfr_I0 rfl (by simp) (qfr_I0 rfl (by simp) (qfr_I0 rfl (by simp) (qfr_I0 rfl (by simp) (qfr_I0 rfl (by simp) qfr_rf)))))
  refine ⟨⟨?_, ?_, ?_, ?_, ?_⟩, f⟩
  · exact sNt_ag.rel w (RelL_fr r.1 (fun b j h1 h2 => (f.1 b j (by unfold inW; simp; omega)).1) (fun b j h1 h2 => (f.1 b j (by unfold inW; simp; omega)).2.1))
  · rw [sNt_5, hg, wI_at]
  · intro m k hm hk
    have eT : gT (sNt0 s x1 x2 x3 x4 x5) = gT s + 1 := by
      show cN (sNt0 s x1 x2 x3 x4 x5 0 5) = _
      rw [sNt_5, cN_nn (by omega)]
    rw [eT] at hm
    show g.1 10 (5 * m + k) = _
    by_cases c : m = gT s
    · subst c
      obtain ⟨n1, n2, n3, n4, n5⟩ := sNt_n (s := s) (x1 := x1) (x2 := x2) (x3 := x3) (x4 := x4) (x5 := x5)
      have : k = 0 ∨ k = 1 ∨ k = 2 ∨ k = 3 ∨ k = 4 := by omega
      rcases this with rfl | rfl | rfl | rfl | rfl
      · rw [n1, hg, wI_ne (by omega), wI_ne (by omega), wI_ne (by omega), wI_ne (by omega), wI_ne (by omega), show 5 * gT s + 0 = gT s * 5 by omega, wI_at]
      · rw [n2, hg, wI_ne (by omega), wI_ne (by omega), wI_ne (by omega), wI_ne (by omega), show 5 * gT s + 1 = gT s * 5 + 1 by omega, wI_at]
      · rw [n3, hg, wI_ne (by omega), wI_ne (by omega), wI_ne (by omega), show 5 * gT s + 2 = gT s * 5 + 2 by omega, wI_at]
      · rw [n4, hg, wI_ne (by omega), wI_ne (by omega), show 5 * gT s + 3 = gT s * 5 + 3 by omega, wI_at]
      · rw [n5, hg, wI_ne (by omega), show 5 * gT s + 4 = gT s * 5 + 4 by omega, wI_at]
    · rw [sNt_o (by omega) c, hg, wI_ne (by omega), wI_ne (by omega), wI_ne (by omega), wI_ne (by omega), wI_ne (by omega), wI_ne (by omega)]
      exact r.2.2.1 m k (by omega) hk
  · rw [sNt_i (by omega) (by omega), (f.1 3 3 rfl).1]; exact r.2.2.2.1
  · rw [sNt_i (by omega) (by omega), (f.1 3 4 rfl).1]; exact r.2.2.2.2
theorem k_aNt {s : Sg} {L : Nat → Lw} {nl : Nat} {B : Nat → Nat} {n : Nat} {I : Nat → Option qa_M} {v : Nat} {h : qa_M} {x1 x2 x3 x4 x5 : Int32} (a : AL s L nl) (i : IvC s L nl B n I v h) (hv : v + 1 < 2147483648) : qW (m_X11_note x1 x2 x3 x4 x5 h) (fun z => z.1 = aNt s x1 x2 x3 x4 x5 ∧ ∃ v2, v2 ≤ v + 1 ∧ IvC (sNt s x1 x2 x3 x4 x5) L nl B n I v2 z.2) := by
  have w := a.wf
  have e1 : h.1 3 1 = nn (gT s) := i.1.rs.2.1.trans w.t.1
  have e2 : h.1 4 2 = nn (gH s) := i.1.rs.1.1.2.2.1.trans w.h.1
  have e3 : h.1 4 3 = nn (gO s) := i.1.rs.1.1.2.2.2.1.trans w.o.1
  have e4 : h.1 4 4 = nn (gS s) := i.1.rs.1.1.2.2.2.2.1.trans w.s.1
  have lt := w.t.2
  have l8 := w.h.2
  have l6 := w.o.2
  have l4 := w.s.2
  have zA : ntA s x2 ≤ 8 := by unfold ntA; split <;> omega
  have no : ¬ ntOK s x1 x2 x3 x4 x5 = true → qW (some ((-1 : Int32), h)) (fun z => z.1 = aNt s x1 x2 x3 x4 x5 ∧ ∃ v2, v2 ≤ v + 1 ∧ IvC (sNt s x1 x2 x3 x4 x5) L nl B n I v2 z.2) := by
    intro c
    rw [qW_some]
    unfold aNt sNt
    rw [if_neg c, if_neg c]
    exact ⟨rfl, v, by omega, i⟩
  unfold m_X11_note
  rw [e1]
  by_cases c1 : gT s = 10
  · rw [if_pos (by rw [c1]; decide)]
    exact no (fun q => by have := (ntOK_t q).1; omega)
  · rw [if_neg (fun q => by rw [show (10 : Int32) = nn 10 from rfl, nn_le (by omega) (by omega)] at q; omega), show (6 : Int32) = nn 6 from rfl, k_wi (by omega), qbn_s]
    by_cases c2 : wiN x1 6 = true
    · rw [c2, if_neg (by decide), show (2 : Int32) = nn 2 from rfl, k_wi (by omega), qbn_s]
      by_cases c3 : wiN x2 2 = true
      · rw [c3, if_neg (by decide)]
        by_cases c6 : -1 ≤ x5.toInt ∧ x5.toInt ≤ 3
        · rw [if_neg (by rw [Int32.lt_iff_toInt_lt, show (-1 : Int32).toInt = -1 from rfl]; omega), if_pos (by rw [Int32.le_iff_toInt_le, show (3 : Int32).toInt = 3 from rfl]; omega)]
          have b71 : ∀ y : Int32, y = nn (ntA s x2) → qW (f_X11_note_b71 x1 x2 x3 x4 x5 x3 y h) (fun z => z.1 = aNt s x1 x2 x3 x4 x5 ∧ ∃ v2, v2 ≤ v + 1 ∧ IvC (sNt s x1 x2 x3 x4 x5) L nl B n I v2 z.2) := by
            intro y ey
            unfold f_X11_note_b71
            rw [ey, k_wi (by omega), qbn_s]
            by_cases c4 : wiN x3 (ntA s x2) = true
            · rw [c4, if_neg (by decide), e4, k_wi (by omega), qbn_s]
              by_cases c5 : wiN x4 (gS s) = true
              · have ok := ntOK_i (show gT s < 10 by omega) c2 c3 c6 c4 c5
                rw [c5, if_neg (by decide), qW_bv]
                refine qW_mono (k_write (t := s) w i.1.rs (by omega)) ?_
                rintro g ⟨rg, f⟩
                rw [qbd_e, qW_some]
                have e13 : g.1 0 13 = nn v := (f.1 0 13 rfl).1.trans i.2.vs
                rw [e13, nn_add1]
                have f2 : qfr [(0, 14), (3, 2), (10, 0)] h (qw_I g 0 13 (nn (v + 1))) := qfr_Ik rfl (by simp) (qfr_sub (qsub_c (by simp) (qsub_c (by simp) qsub_nil)) f)
                have f3 : qfr [(0, 14)] g (qw_I g 0 13 (nn (v + 1))) := qfr_Ik rfl (by simp) qfr_rf
                have r2 : RelS 3 (sNt0 s x1 x2 x3 x4 x5) (qw_I g 0 13 (nn (v + 1))) := RelS_fr rg f3 (fun c j h1 h2 => by unfold inW; simp; omega)
                unfold aNt sNt
                rw [if_pos ok, if_pos ok]
                refine ⟨?_, v + 1, Nat.le_refl _, i.1.to a f2 r2 (fun b j k => by unfold inW; simp; omega), i.2.bump hv wI_at (f2.1 0 14 rfl).1 (f2.1 34 0 rfl).1 (f2.1 40 4 rfl).1 (f2.1 40 12 rfl).1⟩
                show (qw_I g 0 13 (nn (v + 1))).1 3 1 - 1 = nn (gT s)
                rw [r2.2.1, sNt_5, ← nn_add1, Int32.add_sub_cancel]
              · have c5f := c5
                rw [Bool.not_eq_true] at c5f
                rw [c5f, if_pos bi_f]
                exact no (fun q => c5 (ntOK_t q).2.2.2.2.2)
            · have c4f := c4
              rw [Bool.not_eq_true] at c4f
              rw [c4f, if_pos bi_f]
              exact no (fun q => c4 (ntOK_t q).2.2.2.2.1)
          rw [e2, e3]
          by_cases cz : x2 = 0
          · rw [if_pos cz]
            exact b71 _ (by unfold ntA; rw [if_pos cz])
          · rw [if_neg cz]
            exact b71 _ (by unfold ntA; rw [if_neg cz])
        · have n6 : ¬ ntOK s x1 x2 x3 x4 x5 = true := fun q => c6 (ntOK_t q).2.2.2.1
          by_cases c7 : x5 < -1
          · rw [if_pos c7]; exact no n6
          · rw [if_neg c7]
            rw [Int32.lt_iff_toInt_lt, show (-1 : Int32).toInt = -1 from rfl] at c7
            rw [if_neg (by rw [Int32.le_iff_toInt_le, show (3 : Int32).toInt = 3 from rfl]; omega)]
            exact no n6
      · have c3f := c3
        rw [Bool.not_eq_true] at c3f
        rw [c3f, if_pos bi_f]
        exact no (fun q => c3 (ntOK_t q).2.2.1)
    · have c2f := c2
      rw [Bool.not_eq_true] at c2f
      rw [c2f, if_pos bi_f]
      exact no (fun q => c2 (ntOK_t q).2.1)
/-! END -/
theorem TpC_cut {B : Nat → Nat} {n m : Nat} {h : qa_M} (t : TpC B n h) (hm : m ≤ n) : TpC B m (qw_I h 1 1 (nn m)) := ⟨wI_at, by have := t.2.1; omega, fun j hj => ⟨(t.2.2 j (by omega)).1, by rw [wI_ne (by omega)]; exact (t.2.2 j (by omega)).2⟩⟩
theorem TpR_cut {B : Nat → Nat} {n m : Nat} {h : qa_M} (t : TpR B n h) (hm : m ≤ n) : TpR B m (qw_I h 119 20 (nn m)) := ⟨wI_at, by have := t.2.1; omega, fun j hj => ⟨(t.2.2 j (by omega)).1, by rw [wI_ne (by omega)]; exact (t.2.2 j (by omega)).2⟩⟩
/-- the class's side, another tape -/
theorem PC.tape {W : List (Nat × Nat)} {s : Sg} {L : Nat → Lw} {nl : Nat} {B C : Nat → Nat} {n m : Nat} {I : Nat → Option qa_M} {h g : qa_M} (p : PC s L nl B n I h) (a : AL s L nl) (f : qfr W h g) (t : TpC C m g) (w : ∀ b j, (b = 0 ∧ j = 5) ∨ (3 ≤ b ∧ b ≤ 13) ∨ b = 23 ∨ (b = 40 ∧ j = 8) ∨ (51 ≤ b ∧ b ≤ 118) → inW W b j = false) : PC s L nl C m I g := by
  have n4 := a.n4
  have lk : LKeep 4 h g := LKeep_fr f (fun b j h1 h2 => w _ _ (by omega)) (by omega)
  exact ⟨RelS_fr p.rs f (fun c j h1 h2 => w c j (by omega)), t, (f.1 0 5 (w _ _ (by omega))).1.trans p.nl, fun k hk => lk k (L k) (by omega) (a.wl k hk) (p.cl k hk), fun k hk => ⟨(f.1 11 k (w _ _ (by omega))).2.2.trans (p.rf k hk).1, (f.1 13 k (w _ _ (by omega))).2.2.trans (p.rf k hk).2⟩, fun k hk => IC_fr (p.im k hk) f (fun j => w _ _ (by omega)) (fun b j h1 h2 => w _ _ (by omega)), Near_fr p.nt f (fun j => w _ _ (by omega)), RS_fr p.lr f (w _ _ (by omega))⟩
theorem IvR.tape {W : List (Nat × Nat)} {nl : Nat} {B C : Nat → Nat} {n m : Nat} {I : Nat → Option qa_M} {h g : qa_M} (i : IvR nl B n I h) (f : qfr W h g) (t : TpR C m g) (w : ∀ b j, (b = 119 ∧ (j = 24 ∨ j = 29)) ∨ (140 ≤ b ∧ b ≤ 147) ∨ b = 165 ∨ b = 166 ∨ (120 ≤ b ∧ b ≤ 131) → inW W b j = false) : IvR nl C m I g ∧ lw g = lw h ∧ sg g = sg h := by
  have el : lw g = lw h := lw_fr f (fun b j h1 h2 => w _ _ (by omega))
  have es : sg g = sg h := sg_fr f (fun b j h1 h2 => w _ _ (by omega))
  exact ⟨⟨by rw [es]; exact i.wf, fun a j h1 h2 => (f.1 _ j (w _ _ (by omega))).1.trans (i.ob a j h1 h2), t, (f.1 119 24 (w _ _ (by omega))).1.trans i.nl, i.n4, by rw [es]; exact i.gl, fun k hk => by rw [el]; exact i.wl k hk, (f.1 119 29 (w _ _ (by omega))).1.trans i.s7, fun k hk => IR_fr (i.im k hk) f (fun b j h1 h2 => w _ _ (by omega))⟩, el, es⟩
def aEnd (n : Nat) (x : Int32) : Int32 := if wiN x (n + 1) then x else -1
def nEnd (n : Nat) (x : Int32) : Nat := if wiN x (n + 1) then cN x else n
theorem k_aEnd {s : Sg} {L : Nat → Lw} {nl : Nat} {B : Nat → Nat} {n : Nat} {I : Nat → Option qa_M} {v : Nat} {h : qa_M} {x : Int32} (a : AL s L nl) (i : IvC s L nl B n I v h) : qW (m_X11_end x h) (fun z => z.1 = aEnd n x ∧ IvC s L nl B (nEnd n x) I v z.2) := by
  have h400 := i.1.tp.2.1
  unfold m_X11_end aEnd nEnd
  rw [i.1.tp.1]
  by_cases c : wiN x (n + 1) = true
  · obtain ⟨m, hm, hm2, e⟩ := wiN_t c
    rw [if_pos c, if_pos c, e, if_neg (by rw [show (0 : Int32) = nn 0 from rfl, nn_lt (by omega) (by omega)]; omega), if_pos ((nn_le (by omega) (by omega)).mpr (by omega)), qbd_e, qW_some, cN_nn hm2]
    have f : qfr [(1, 2)] h (qw_I h 1 1 (nn m)) := qfr_Ik rfl (by simp) qfr_rf
    exact ⟨rfl, i.1.tape a f (TpC_cut i.1.tp (by omega)) (fun b j k => by unfold inW; simp; omega), i.2.fr f (fun b j k => by unfold kpV at k; unfold inW; simp; omega)⟩
  · rw [if_neg c, if_neg c]
    have c2 := c
    unfold wiN at c2
    rw [decide_eq_true_eq] at c2
    by_cases c1 : x < 0
    · rw [if_pos c1, qW_some]; exact ⟨rfl, i⟩
    · rw [if_neg c1]
      rw [Int32.lt_iff_toInt_lt, show (0 : Int32).toInt = 0 from rfl] at c1
      rw [if_neg (by rw [Int32.le_iff_toInt_le, nn_toInt (by omega)]; omega), qW_some]; exact ⟨rfl, i⟩
theorem r_aEnd {nl : Nat} {B : Nat → Nat} {n : Nat} {I : Nat → Option qa_M} {h : qa_M} {x : Int32} (i : IvR nl B n I h) : qW (m_X12_end x h) (fun z => z.1 = aEnd n x ∧ IvR nl B (nEnd n x) I z.2 ∧ lw z.2 = lw h ∧ sg z.2 = sg h) := by
  have h400 := i.tp.2.1
  unfold m_X12_end aEnd nEnd
  rw [i.tp.1]
  by_cases c : wiN x (n + 1) = true
  · obtain ⟨m, hm, hm2, e⟩ := wiN_t c
    rw [if_pos c, if_pos c, e, if_neg (by rw [show (0 : Int32) = nn 0 from rfl, nn_lt (by omega) (by omega)]; omega), if_pos ((nn_le (by omega) (by omega)).mpr (by omega)), qbd_e, qW_some, cN_nn hm2]
    have f : qfr [(119, 21)] h (qw_I h 119 20 (nn m)) := qfr_Ik rfl (by simp) qfr_rf
    exact ⟨rfl, i.tape f (TpR_cut i.tp (by omega)) (fun b j k => by unfold inW; simp; omega)⟩
  · rw [if_neg c, if_neg c]
    have c2 := c
    unfold wiN at c2
    rw [decide_eq_true_eq] at c2
    by_cases c1 : x < 0
    · rw [if_pos c1, qW_some]; exact ⟨rfl, i, rfl, rfl⟩
    · rw [if_neg c1]
      rw [Int32.lt_iff_toInt_lt, show (0 : Int32).toInt = 0 from rfl] at c1
      rw [if_neg (by rw [Int32.le_iff_toInt_le, nn_toInt (by omega)]; omega), qW_some]; exact ⟨rfl, i, rfl, rfl⟩
