/-! A NOTE IS TAKEN -/
def ntA (s : Sg) (x2 : Int32) : Nat := if x2 = 0 then gH s else gO s
def ntOK (s : Sg) (x1 x2 x3 x4 x5 : Int32) : Bool := decide (gT s < 10) && (wiN x1 6 && (wiN x2 2 && (decide (-1 ≤ x5.toInt ∧ x5.toInt ≤ 3) && (wiN x3 (ntA s x2) && wiN x4 (gS s)))))
def aNt (s : Sg) (x1 x2 x3 x4 x5 : Int32) : Int32 := if ntOK s x1 x2 x3 x4 x5 then nn (gT s) else -1
def sNt0 (s : Sg) (x1 x2 x3 x4 x5 : Int32) : Sg := upS (upS (upS (upS (upS (upS s 7 (gT s) x1) 8 (gT s) x2) 9 (gT s) x3) 10 (gT s) x4) 11 (gT s) x5) 0 5 (nn (gT s + 1))
def sNt (s : Sg) (x1 x2 x3 x4 x5 : Int32) : Sg := if ntOK s x1 x2 x3 x4 x5 then sNt0 s x1 x2 x3 x4 x5 else s
theorem sNt_i {s : Sg} {x1 x2 x3 x4 x5 : Int32} {i j : Nat} (h : i < 7) (h0 : ¬ (i = 0 ∧ j = 5)) : sNt0 s x1 x2 x3 x4 x5 i j = s i j := by
  unfold sNt0
  rw [upS_ne h0, upS_ne (by omega), upS_ne (by omega), upS_ne (by omega), upS_ne (by omega), upS_ne (by omega)]
theorem sNt_5 {s : Sg} {x1 x2 x3 x4 x5 : Int32} : sNt0 s x1 x2 x3 x4 x5 0 5 = nn (gT s + 1) := upS_at
theorem sNt_o {s : Sg} {x1 x2 x3 x4 x5 : Int32} {i j : Nat} (h : 7 ≤ i) (hj : j ≠ gT s) : sNt0 s x1 x2 x3 x4 x5 i j = s i j := by
  unfold sNt0
  rw [upS_ne (by omega), upS_ne (by omega), upS_ne (by omega), upS_ne (by omega), upS_ne (by omega), upS_ne (by omega)]
theorem sNt_n {s : Sg} {x1 x2 x3 x4 x5 : Int32} : sNt0 s x1 x2 x3 x4 x5 7 (gT s) = x1 ∧ sNt0 s x1 x2 x3 x4 x5 8 (gT s) = x2 ∧ sNt0 s x1 x2 x3 x4 x5 9 (gT s) = x3 ∧ sNt0 s x1 x2 x3 x4 x5 10 (gT s) = x4 ∧ sNt0 s x1 x2 x3 x4 x5 11 (gT s) = x5 := by
  unfold sNt0
  refine ⟨?_, ?_, ?_, ?_, ?_⟩
  · rw [upS_ne (by omega), upS_ne (by omega), upS_ne (by omega), upS_ne (by omega), upS_ne (by omega), upS_at]
  · rw [upS_ne (by omega), upS_ne (by omega), upS_ne (by omega), upS_ne (by omega), upS_at]
  · rw [upS_ne (by omega), upS_ne (by omega), upS_ne (by omega), upS_at]
  · rw [upS_ne (by omega), upS_ne (by omega), upS_at]
  · rw [upS_ne (by omega), upS_at]
theorem sNt_ag {s : Sg} {x1 x2 x3 x4 x5 : Int32} : AgS (sNt0 s x1 x2 x3 x4 x5) s := fun i j h1 h2 => sNt_i h1 (fun q => by obtain ⟨rfl, rfl⟩ := q; exact absurd h2 (by decide))
theorem ntOK_t {s : Sg} {x1 x2 x3 x4 x5 : Int32} (h : ntOK s x1 x2 x3 x4 x5 = true) : gT s < 10 ∧ wiN x1 6 = true ∧ wiN x2 2 = true ∧ (-1 ≤ x5.toInt ∧ x5.toInt ≤ 3) ∧ wiN x3 (ntA s x2) = true ∧ wiN x4 (gS s) = true := by
  unfold ntOK at h
  rw [Bool.and_eq_true, Bool.and_eq_true, Bool.and_eq_true, Bool.and_eq_true, Bool.and_eq_true, decide_eq_true_eq, decide_eq_true_eq] at h
  exact h
theorem ntOK_i {s : Sg} {x1 x2 x3 x4 x5 : Int32} (h1 : gT s < 10) (h2 : wiN x1 6 = true) (h3 : wiN x2 2 = true) (h4 : -1 ≤ x5.toInt ∧ x5.toInt ≤ 3) (h5 : wiN x3 (ntA s x2) = true) (h6 : wiN x4 (gS s) = true) : ntOK s x1 x2 x3 x4 x5 = true := by
  unfold ntOK
  rw [decide_eq_true h1, h2, h3, decide_eq_true h4, h5, h6]
  rfl
theorem wiN_in {x : Int32} {n m : Nat} (h : wiN x (n + 1) = true) (hm : n ≤ m) : inr x m := by
  obtain ⟨k, h1, h2, e⟩ := wiN_t h
  exact ⟨k, by omega, e⟩
theorem sNt_wf {s : Sg} {x1 x2 x3 x4 x5 : Int32} (w : WF s) (h : ntOK s x1 x2 x3 x4 x5 = true) : WF (sNt0 s x1 x2 x3 x4 x5) := by
  obtain ⟨h1, h2, h3, h4, h5, h6⟩ := ntOK_t h
  have eT : gT (sNt0 s x1 x2 x3 x4 x5) = gT s + 1 := by
    show cN (sNt0 s x1 x2 x3 x4 x5 0 5) = _
    rw [sNt_5, cN_nn (by omega)]
  have a := sNt_ag (s := s) (x1 := x1) (x2 := x2) (x3 := x3) (x4 := x4) (x5 := x5)
  obtain ⟨g1, g2, g3, g4, g5⟩ := a.g
  have l8 := w.h.2
  have l6 := w.o.2
  have l4 := w.s.2
  obtain ⟨k3, hk3, hk3b, e3⟩ := wiN_t h5
  obtain ⟨k4, hk4, hk4b, e4⟩ := wiN_t h6
  obtain ⟨k2, hk2, hk2b, e2⟩ := wiN_t h3
  have zA : ntA s x2 ≤ 8 := by unfold ntA; split <;> omega
  have zB : 0 < gC s := by
    rcases Nat.eq_zero_or_pos (gC s) with q | q
    · obtain ⟨-, z2, z3, -⟩ := w.2.2.2.2.2.2 q
      unfold ntA at hk3
      rw [z2, z3] at hk3
      split at hk3 <;> omega
    · exact q
  refine a.wf w (by rw [sNt_5]; exact ⟨gT s + 1, by omega, rfl⟩) (by rw [sNt_i (by omega) (by omega)]; exact w.1.2.2.2.2.2.2.1) (by rw [sNt_i (by omega) (by omega)]; exact w.1.2.2.2.2.2.2.2) (fun m hm => ?_) (fun q => by omega)
  rw [eT] at hm
  unfold NtF
  rw [g3, g4, g5]
  by_cases c : m = gT s
  · subst c
    obtain ⟨n1, n2, n3, n4, n5⟩ := sNt_n (s := s) (x1 := x1) (x2 := x2) (x3 := x3) (x4 := x4) (x5 := x5)
    rw [n1, n2, n3, n4, n5]
    refine ⟨wiN_in h2 (by omega), wiN_in h3 (by omega), ⟨k3, by omega, e3⟩, ?_, ⟨k4, by omega, e4⟩, ?_, h4.1, h4.2⟩
    · rw [e3, cN_nn hk3b]
      unfold ntA at hk3
      by_cases cz : x2 = 0
      · rw [if_pos cz] at hk3
        rw [if_pos (by rw [cz]; rfl)]; exact hk3
      · rw [if_neg cz] at hk3
        rw [if_neg (fun q => cz (by rw [e2, cN_nn hk2b] at q; rw [e2, q]; rfl))]; exact hk3
    · rw [e4, cN_nn hk4b]; exact hk4
  · rw [sNt_o (by omega) c, sNt_o (by omega) c, sNt_o (by omega) c, sNt_o (by omega) c, sNt_o (by omega) c]
    exact w.2.2.2.2.2.1 m (by omega)
theorem r_aNt {nl : Nat} {B : Nat → Nat} {n : Nat} {I : Nat → Option qa_M} {h : qa_M} {x1 x2 x3 x4 x5 : Int32} (i : IvR nl B n I h) : qW (m_X12_note x1 x2 x3 x4 x5 h) (fun z => z.1 = aNt (sg h) x1 x2 x3 x4 x5 ∧ IvR nl B n I z.2 ∧ lw z.2 = lw h ∧ sg z.2 = sNt (sg h) x1 x2 x3 x4 x5) := by
  have w := i.wf
  have e5 : h.1 120 5 = nn (gT (sg h)) := w.t.1
  have e2 : h.1 120 2 = nn (gH (sg h)) := w.h.1
  have e3 : h.1 120 3 = nn (gO (sg h)) := w.o.1
  have lt := w.t.2
  have l8 := w.h.2
  have l6 := w.o.2
  have no : ¬ ntOK (sg h) x1 x2 x3 x4 x5 = true → qW (some ((-1 : Int32), h)) (fun z => z.1 = aNt (sg h) x1 x2 x3 x4 x5 ∧ IvR nl B n I z.2 ∧ lw z.2 = lw h ∧ sg z.2 = sNt (sg h) x1 x2 x3 x4 x5) := by
    intro c
    rw [qW_some]
    unfold aNt sNt
    rw [if_neg c, if_neg c]
    exact ⟨rfl, i, rfl, rfl⟩
  unfold m_X12_note
  rw [qck_ok (i := 5) (by decide), show (5 : Int32).toNatClampNeg = 5 from rfl, e5, qbd_e, r_isLand w, qbn_s]
  by_cases c0 : 0 < gC (sg h)
  · rw [decide_eq_true c0, if_neg (by decide)]
    by_cases c1 : gT (sg h) = 10
    · rw [if_pos (by rw [c1]; rfl)]
      exact no (fun q => by have := (ntOK_t q).1; omega)
    · rw [if_neg (fun q => by rw [show (10 : Int32) = nn 10 from rfl, nn_eq (by omega) (by omega)] at q; exact c1 q), r_wc (n := 6) (by decide), qbn_s]
      by_cases c2 : wiN x1 6 = true
      · rw [c2, if_neg (by decide), r_wc (n := 2) (by decide), qbn_s]
        by_cases c3 : wiN x2 2 = true
        · rw [c3, if_neg (by decide)]
          have b60 : ∀ s3 : Int32, qck s3 8 (some ((0 : Int32), h)) = some (0, h) → h.1 120 s3.toNatClampNeg = nn (ntA (sg h) x2) → qW (f_X12_note_b60 x1 x2 x3 x4 x5 (nn (gT (sg h))) x3.toInt64 (0 : Int64) s3 h) (fun z => z.1 = aNt (sg h) x1 x2 x3 x4 x5 ∧ IvR nl B n I z.2 ∧ lw z.2 = lw h ∧ sg z.2 = sNt (sg h) x1 x2 x3 x4 x5) := by
            intro s3 q8 ea
            have zA : ntA (sg h) x2 ≤ 8 := by unfold ntA; split <;> omega
            unfold f_X12_note_b60
            have q9 : vp_in s3 8 := (qck_el q8).1
            rw [qck_ok (vp_in_iff.mp q9), ea, r_wi (by omega), qbn_s]
            by_cases c4 : wiN x3 (ntA (sg h) x2) = true
            · rw [c4, if_neg (by decide), r_isSort w, qbn_s]
              show qW (if bi (wiN x4 (gS (sg h))) = 0 then _ else _) _
              by_cases c5 : wiN x4 (gS (sg h)) = true
              · rw [c5, if_neg (by decide), r_in, i64_i, show (-1 : Int64).toInt = -1 from rfl, show (3 : Int64).toInt = 3 from rfl, qbn_s]
                by_cases c6 : -1 ≤ x5.toInt ∧ x5.toInt ≤ 3
                · rw [decide_eq_true c6, if_neg (by decide), qck_nn (by omega) (by omega), qbd_e, nn_cl (by omega), qck_nn (by omega) (by omega), qbd_e, qck_nn (by omega) (by omega), qbd_e, qck_nn (by omega) (by omega), qbd_e, qck_nn (by omega) (by omega), qbd_e, qck_ok (i := 5) (by decide), qck_ok (i := 5) (by decide), show (5 : Int32).toNatClampNeg = 5 from rfl, qbd_e, qW_some]
                  have ok := ntOK_i (by omega) c2 c3 c6 c4 c5
                  obtain ⟨g, hg⟩ : ∃ g, g = qw_I (qw_I (qw_I (qw_I (qw_I h 127 (gT (sg h)) x1) 128 (gT (sg h)) x2) 129 (gT (sg h)) x3) 130 (gT (sg h)) x4) 131 (gT (sg h)) x5 := ⟨_, rfl⟩
                  rw [← hg]
                  have e5g : g.1 120 5 = nn (gT (sg h)) := by rw [hg, wI_ne (by omega), wI_ne (by omega), wI_ne (by omega), wI_ne (by omega), wI_ne (by omega), e5]
                  rw [e5g, nn_add1]
                  have es : sg (qw_I g 120 5 (nn (gT (sg h) + 1))) = sNt0 (sg h) x1 x2 x3 x4 x5 := by
                    rw [show sg (qw_I g 120 5 (nn (gT (sg h) + 1))) = upS (sg g) 0 5 (nn (gT (sg h) + 1)) from sg_w (i := 0) (by omega), hg]
                    unfold sNt0
                    rw [show ∀ (a : qa_M) (j : Nat) (v : Int32), sg (qw_I a 131 j v) = upS (sg a) 11 j v from fun a j v => sg_w (i := 11) (by omega), show ∀ (a : qa_M) (j : Nat) (v : Int32), sg (qw_I a 130 j v) = upS (sg a) 10 j v from fun a j v => sg_w (i := 10) (by omega), show ∀ (a : qa_M) (j : Nat) (v : Int32), sg (qw_I a 129 j v) = upS (sg a) 9 j v from fun a j v => sg_w (i := 9) (by omega), show ∀ (a : qa_M) (j : Nat) (v : Int32), sg (qw_I a 128 j v) = upS (sg a) 8 j v from fun a j v => sg_w (i := 8) (by omega), show ∀ (a : qa_M) (j : Nat) (v : Int32), sg (qw_I a 127 j v) = upS (sg a) 7 j v from fun a j v => sg_w (i := 7) (by omega)]
                  have f : qfr [(120, 0), (127, 0), (128, 0), (129, 0), (130, 0), (131, 0)] h (qw_I g 120 5 (nn (gT (sg h) + 1))) := by
                    rw [hg]
                    exact qfr_I0 rfl (by simp) (qfr_I0 rfl (by simp) (qfr_I0 rfl (by simp) (qfr_I0 rfl (by simp) (qfr_I0 rfl (by simp) (qfr_I0 rfl (by simp) qfr_rf)))))
                  have := i.keep f (fun b j k => by unfold kpR at k; unfold inW; simp; omega) (by rw [es]; exact sNt_wf w ok) (fun a j h1 h2 => by
                    have l10 : 7 ≤ a → 10 ≤ j := by
                      intro ha
                      have : a = 7 ∨ a = 8 ∨ a = 9 ∨ a = 10 ∨ a = 11 := by omega
                      rcases this with rfl | rfl | rfl | rfl | rfl <;> exact h2
                    have l0 : a = 0 → 8 ≤ j := by
                      intro ha
                      subst ha
                      exact h2
                    rw [wI_ne (by omega), hg, wI_ne (by omega), wI_ne (by omega), wI_ne (by omega), wI_ne (by omega), wI_ne (by omega)]
                    exact i.ob a j h1 h2) (by
                    rw [es]
                    show cN (sNt0 (sg h) x1 x2 x3 x4 x5 0 6) ≤ nl
                    rw [sNt_i (by omega) (by omega)]
                    exact i.gl)
                  unfold aNt sNt
                  rw [if_pos ok, if_pos ok]
                  exact ⟨rfl, this.1, this.2, es⟩
                · rw [decide_eq_false c6, if_pos bi_f]
                  exact no (fun q => c6 (ntOK_t q).2.2.2.1)
              · have c5f := c5
                rw [Bool.not_eq_true] at c5f
                rw [c5f, if_pos bi_f]
                exact no (fun q => c5 (ntOK_t q).2.2.2.2.2)
            · have c4f := c4
              rw [Bool.not_eq_true] at c4f
              rw [c4f, if_pos bi_f]
              exact no (fun q => c4 (ntOK_t q).2.2.2.2.1)
          by_cases cz : x2 = 0
          · rw [if_pos cz]
            exact b60 2 rfl (by show h.1 120 2 = _; rw [e2]; unfold ntA; rw [if_pos cz])
          · rw [if_neg cz]
            exact b60 3 rfl (by show h.1 120 3 = _; rw [e3]; unfold ntA; rw [if_neg cz])
        · have c3f := c3
          rw [Bool.not_eq_true] at c3f
          rw [c3f, if_pos bi_f]
          exact no (fun q => c3 (ntOK_t q).2.2.1)
      · have c2f := c2
        rw [Bool.not_eq_true] at c2f
        rw [c2f, if_pos bi_f]
        exact no (fun q => c2 (ntOK_t q).2.1)
  · rw [decide_eq_false c0, if_pos bi_f]
    refine no (fun q => ?_)
    obtain ⟨-, z2, z3, -⟩ := w.2.2.2.2.2.2 (by omega)
    obtain ⟨k, hk, -⟩ := wiN_t (ntOK_t q).2.2.2.2.1
    unfold ntA at hk
    rw [z2, z3] at hk
    split at hk <;> omega
