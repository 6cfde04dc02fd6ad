/-! THE CLASS'S SEARCH: its start -/
def RelS (b : Nat) (s : Sg) (h : qa_M) : Prop := RelL (b + 1) s h ∧ h.1 b 1 = s 0 5 ∧ (∀ m k, m < gT s → k < 5 → h.1 (b + 7) (5 * m + k) = s (7 + k) m) ∧ h.1 b 3 = s 0 6 - 1 ∧ h.1 b 4 = s 0 7
theorem RelS_fr {W : List (Nat × Nat)} {b : Nat} {s : Sg} {h g : qa_M} (r : RelS b s h) (f : qfr W h g) (hw : ∀ c j, b ≤ c → c ≤ b + 7 → inW W c j = false) : RelS b s g := by
  obtain ⟨r1, r2, r3, r4, r5⟩ := r
  refine ⟨RelL_fr r1 (fun c j h1 h2 => (f.1 c j (hw c j (by omega) (by omega))).1) (fun c j h1 h2 => (f.1 c j (hw c j (by omega) (by omega))).2.1), ?_, fun m k h1 h2 => ?_, ?_, ?_⟩
  · rw [(f.1 _ _ (hw _ _ (by omega) (by omega))).1]; exact r2
  · rw [(f.1 _ _ (hw _ _ (by omega) (by omega))).1]; exact r3 m k h1 h2
  · rw [(f.1 _ _ (hw _ _ (by omega) (by omega))).1]; exact r4
  · rw [(f.1 _ _ (hw _ _ (by omega) (by omega))).1]; exact r5
theorem k_fact {s : Sg} {h : qa_M} (w : WF s) (r : RelS 3 s h) {m k : Nat} (hm : m < gT s) (hk : k < 5) : m_X8_fact (nn m) (nn k) h = some (s (7 + k) m, h) := by
  have l10 := w.t.2
  unfold m_X8_fact
  rw [show (5 : Int32) = nn 5 from rfl, nn_mul, nn_add, qck_nn (by omega) (by omega), nn_cl (by omega), show m * 5 + k = 5 * m + k by omega, r.2.2.1 m k hm hk]
theorem k_region {s : Sg} {h : qa_M} (w : WF s) (r : RelS 3 s h) {m : Nat} (hm : m < gT s) : m_X8_region (nn m) h = some (reg s m, h) := by
  obtain ⟨b1, b2, c1, c2, c3⟩ := w.nt hm
  have l2 := w.h.2
  have l3 := w.o.2
  unfold m_X8_region
  rw [show (2 : Int32) = nn 2 from rfl, k_fact w r hm (by omega), qbn_s, qbd_e, show (1 : Int32) = nn 1 from rfl, k_fact w r hm (by omega), qbn_s, show s (7 + 1) m = nn (cN (s 8 m)) from b1, show s (7 + 2) m = nn (cN (s 9 m)) from c1]
  unfold reg
  by_cases c : cN (s 8 m) = 0
  · rw [if_pos c] at c3
    rw [if_pos (by rw [c]; rfl), if_pos c, qck_nn (by omega) (by omega), nn_cl (by omega), (r.1.2.2.1 _ c3).2.2]
  · rw [if_neg c] at c3
    rw [if_neg (by rw [show (0 : Int32) = nn 0 from rfl, nn_eq (by omega) (by omega)]; omega), if_neg c, qck_nn (by omega) (by omega), nn_cl (by omega), r.1.2.2.2.1 _ c3]
theorem nn_bit : ∀ m, m < 10 → ∀ S, S < 1024 → ((nn S >>> (nn m &&& 31)) &&& 1) = bi (S.testBit m) := by decide +kernel
/-- notes so far -/
def NSc (s : Sg) (L : Nat → Lw) (S c : Nat) (h : qa_M) : Prop :=
  h.1 22 8 = nn (cnt (pCt s S) c) ∧ (∀ m, m < c → pCt s S m = true → h.2.1 28 (cnt (pCt s S) m) = reg s m ∧ h.1 29 (cnt (pCt s S) m) = nn (nSort s m) ∧ h.1 30 (cnt (pCt s S) m) = s 11 m) ∧ (∀ i, i < 4 → h.2.1 27 i = mkm (fun q => tb (alw s L i) q && alF (fun m => !(S.testBit m && (decide (sur s m = 0) && decide (nSort s m = i))) || !tb (reg s m) q) 0 c) 36) ∧ h.1 22 7 = bi (exN (fun m => S.testBit m && (decide (sur s m < 0) && decide (mny s (nSort s m) = 0))) c)
theorem k_heed {s : Sg} {L : Nat → Lw} {S c : Nat} {h : qa_M} (w : WF s) (r : RelS 3 s h) (hc : c < gT s) (hS : S.testBit c = true) (n : NSc s L S c h) : qW (m_X7_heed (nn (nSort s c)) (s 11 c) (reg s c) h) (fun g => NSc s L S (c + 1) g) := by
  obtain ⟨n1, n2, n3, n4⟩ := n
  obtain ⟨m1, m2, m3, m4⟩ := w.ns hc
  obtain ⟨y1, y2⟩ := w.m m2
  have l4 := w.s.2
  have l10 := w.t.2
  have e9 : h.1 9 (nSort s c) = nn (mny s (nSort s c)) := (r.1.2.2.2.2 _ m2).trans y1
  have z : (0 : Int32).toInt = 0 := rfl
  have hcn : cnt (pCt s S) c ≤ 9 := by have := cnt_le (p := pCt s S) (n := c); omega
  unfold m_X7_heed
  rw [qck_nn (by omega) (by omega), nn_cl (by omega), e9, qbd_e]
  have zc : (s 11 c = 0) ↔ sur s c = 0 := by
    unfold sur
    constructor
    · intro q; rw [q]; rfl
    · intro q
      rw [← Int32.toInt_inj]
      omega
  have cntf : pCt s S c = false → ∀ g : qa_M, (g.1 22 8 = h.1 22 8) → (∀ j, g.2.1 28 j = h.2.1 28 j) → (∀ j, g.1 29 j = h.1 29 j) → (∀ j, g.1 30 j = h.1 30 j) → g.1 22 8 = nn (cnt (pCt s S) (c + 1)) ∧ (∀ m, m < c + 1 → pCt s S m = true → g.2.1 28 (cnt (pCt s S) m) = reg s m ∧ g.1 29 (cnt (pCt s S) m) = nn (nSort s m) ∧ g.1 30 (cnt (pCt s S) m) = s 11 m) := by
    intro hp g e1 e2 e3 e4
    refine ⟨by rw [e1, n1, cnt_f hp], fun m hm hpm => ?_⟩
    have : m < c := by
      rcases Nat.lt_or_ge m c with q | q
      · exact q
      · rw [show m = c by omega, hp] at hpm; cases hpm
    rw [e2, e3, e4]
    exact n2 m this hpm
  have alz : ¬ sur s c = 0 → ∀ i, i < 4 → h.2.1 27 i = mkm (fun q => tb (alw s L i) q && alF (fun m => !(S.testBit m && (decide (sur s m = 0) && decide (nSort s m = i))) || !tb (reg s m) q) 0 (c + 1)) 36 := by
    intro hz i hi
    rw [n3 i hi]
    apply mkm_congr
    intro q _
    rw [alF_snoc, Nat.zero_add, decide_eq_false hz]
    simp
  by_cases c0 : sur s c = 0
  · have hp : pCt s S c = false := by unfold pCt; rw [decide_eq_true c0]; simp
    rw [if_pos (zc.mpr c0)]
    simp (disch := first | omega | decide) only [qbn_x, qbv_x, qup_x, qbd_x, qck_nn, qck_ok, nn_cl, nn_add1, lx0, lx1, lx2, lx3, lx4, lx5, lx6, lx7, lx8, lx9, lx10, bi_e0, bi_e1]
    rw [qW_some]
    obtain ⟨f1, f2⟩ := cntf hp (qw_J h 27 (nSort s c) (h.2.1 27 (nSort s c) &&& (reg s c ^^^ (-1)))) rfl (fun j => wJ_ne (by omega)) (fun _ => rfl) (fun _ => rfl)
    refine ⟨f1, f2, fun i hi => ?_, ?_⟩
    · by_cases ci : i = nSort s c
      · subst ci
        rw [wJ_at, n3 _ hi, mkm_and (by omega)]
        apply mkm_congr
        intro q h36
        rw [alF_snoc, Nat.zero_add, hS, decide_eq_true c0, decide_eq_true rfl, tb_not (by omega), Bool.and_assoc]
        rfl
      · rw [wJ_ne (fun q => ci q.2), n3 i hi]
        apply mkm_congr
        intro q h36
        rw [alF_snoc, Nat.zero_add, decide_eq_false (show ¬ nSort s c = i from fun q => ci q.symm)]
        simp
    · show h.1 22 7 = bi (exN _ c || (S.testBit c && (decide (sur s c < 0) && decide (mny s (nSort s c) = 0))))
      rw [n4, decide_eq_false (show ¬ sur s c < 0 by omega)]
      simp
  · rw [if_neg (fun q => c0 (zc.mp q))]
    have b52 : ¬ (sur s c < 0 ∧ mny s (nSort s c) = 0) → qW (f_X7_heed_b52 (nn (nSort s c)) (s 11 c) (reg s c) (nn (mny s (nSort s c))) h) (fun g => NSc s L S (c + 1) g) := by
      intro hh
      have hex : exN (fun m => S.testBit m && (decide (sur s m < 0) && decide (mny s (nSort s m) = 0))) (c + 1) = exN (fun m => S.testBit m && (decide (sur s m < 0) && decide (mny s (nSort s m) = 0))) c := by
        show (exN _ c || (S.testBit c && (decide (sur s c < 0) && decide (mny s (nSort s c) = 0)))) = _
        have : (decide (sur s c < 0) && decide (mny s (nSort s c) = 0)) = false := by
          rw [Bool.and_eq_false_iff, decide_eq_false_iff_not, decide_eq_false_iff_not]
          omega
        rw [this]
        simp
      unfold f_X7_heed_b52
      by_cases cl : sur s c < mny s (nSort s c)
      · have hp : pCt s S c = true := by
          unfold pCt
          rw [hS, decide_eq_false c0, decide_eq_true cl]
          have : (decide (sur s c < 0) && decide (mny s (nSort s c) = 0)) = false := by
            rw [Bool.and_eq_false_iff, decide_eq_false_iff_not, decide_eq_false_iff_not]
            omega
          rw [this]
          rfl
        rw [if_neg (by rw [Int32.le_iff_toInt_le, nn_toInt (by omega)]; unfold sur at cl; omega), n1, if_neg (by rw [show (10 : Int32) = nn 10 from rfl, nn_le (by omega) (by omega)]; omega), qck_nn (by omega) (by omega), nn_cl (by omega)]
        simp only [qbd_x]
        rw [show (qw_J h 28 (cnt (pCt s S) c) (reg s c)).1 22 8 = nn (cnt (pCt s S) c) from n1, qck_nn (by omega) (by omega), nn_cl (by omega), wI_ne (by omega), show (qw_J h 28 (cnt (pCt s S) c) (reg s c)).1 22 8 = nn (cnt (pCt s S) c) from n1, qck_nn (by omega) (by omega), nn_cl (by omega), wI_ne (by omega), wI_ne (by omega), show (qw_J h 28 (cnt (pCt s S) c) (reg s c)).1 22 8 = nn (cnt (pCt s S) c) from n1, nn_add1, qW_some]
        refine ⟨by rw [wI_at, cnt_t hp], fun m hm hpm => ?_, fun i hi => ?_, ?_⟩
        · by_cases cm : m = c
          · subst cm
            refine ⟨?_, ?_, ?_⟩
            · show (qw_J h 28 (cnt (pCt s S) m) (reg s m)).2.1 28 _ = _
              exact wJ_at
            · rw [wI_ne (by omega), wI_ne (by omega), wI_at]
            · rw [wI_ne (by omega), wI_at]
          · have hlt : cnt (pCt s S) m < cnt (pCt s S) c := by
              have := cnt_mono (p := pCt s S) (show m + 1 ≤ c by omega)
              rw [cnt_t hpm] at this
              omega
            obtain ⟨a1, a2, a3⟩ := n2 m (by omega) hpm
            refine ⟨?_, ?_, ?_⟩
            · show (qw_J h 28 (cnt (pCt s S) c) (reg s c)).2.1 28 _ = _
              rw [wJ_ne (by omega)]; exact a1
            · rw [wI_ne (by omega), wI_ne (by omega), wI_ne (by omega)]; exact a2
            · rw [wI_ne (by omega), wI_ne (by omega), wI_ne (by omega)]; exact a3
        · show (qw_J h 28 (cnt (pCt s S) c) (reg s c)).2.1 27 i = _
          rw [wJ_ne (by omega)]
          exact alz c0 i hi
        · rw [wI_ne (by omega), wI_ne (by omega), wI_ne (by omega)]
          show h.1 22 7 = _
          rw [n4, hex]
      · have hp : pCt s S c = false := by unfold pCt; rw [decide_eq_false cl]; simp
        rw [if_pos (by rw [Int32.le_iff_toInt_le, nn_toInt (by omega)]; unfold sur at cl; omega), qW_some]
        obtain ⟨f1, f2⟩ := cntf hp h rfl (fun _ => rfl) (fun _ => rfl) (fun _ => rfl)
        exact ⟨f1, f2, alz c0, by rw [n4, hex]⟩
    by_cases c1 : sur s c < 0
    · rw [if_neg (by rw [Int32.le_iff_toInt_le]; unfold sur at c1; omega)]
      by_cases c2 : mny s (nSort s c) = 0
      · have hp : pCt s S c = false := by unfold pCt; rw [decide_eq_true c1, decide_eq_true c2]; simp
        rw [if_pos (by rw [c2]; rfl), qbd_e, qW_some]
        obtain ⟨f1, f2⟩ := cntf hp (qw_I h 22 7 1) (wI_ne (by omega)) (fun _ => rfl) (fun _ => wI_ne (by omega)) (fun _ => wI_ne (by omega))
        refine ⟨f1, f2, alz c0, ?_⟩
        rw [wI_at]
        show _ = bi (exN _ c || (S.testBit c && (decide (sur s c < 0) && decide (mny s (nSort s c) = 0))))
        rw [hS, decide_eq_true c1, decide_eq_true c2]
        simp
        rfl
      · rw [if_neg (by rw [show (0 : Int32) = nn 0 from rfl, nn_eq (by omega) (by omega)]; exact c2)]
        exact b52 (fun q => c2 q.2)
    · rw [if_pos (by rw [Int32.le_iff_toInt_le]; unfold sur at c1; omega)]
      exact b52 (fun q => c1 q.1)
theorem NSc_p {s : Sg} {L : Nat → Lw} {S : Nat} {h : qa_M} (n : NSc s L S (gT s) h) : NSp s L S h := ⟨n.1, n.2.1, n.2.2.1⟩
theorem SP_fr {W : List (Nat × Nat)} {s : Sg} {L : Nat → Lw} {h g : qa_M} (sp : SP s L h) (f : qfr W h g) (h0 : inW W 22 4 = false) (h1 : ∀ b j, 24 ≤ b → b ≤ 26 → inW W b j = false) : SP s L g := by
  obtain ⟨a, b, c, d⟩ := sp
  refine ⟨?_, fun t ht => ?_, fun i hi => ?_, fun x y hx hy => ?_⟩
  · rw [(f.1 22 4 h0).1]; exact a
  · rw [(f.1 26 t (h1 _ _ (by omega) (by omega))).1]; exact b t ht
  · rw [(f.1 24 i (h1 _ _ (by omega) (by omega))).2.1]; exact c i hi
  · rw [(f.1 25 _ (h1 _ _ (by omega) (by omega))).1]; exact d x y hx hy
theorem Near_fr {W : List (Nat × Nat)} {h g : qa_M} (n : NearT h) (f : qfr W h g) (h1 : ∀ j, inW W 23 j = false) : NearT g := fun d q h2 h3 h4 => by rw [(f.1 23 _ (h1 _)).2.1]; exact n d q h2 h3 h4
/-- the batches of a set -/
def batC (s : Sg) (L : Nat → Lw) (S : Nat) : List (List Nat × Int64) := if hopl s S then [] else if nT s = 0 then [([], 4611686018427387904)] else bts (okB s L S) (nT s - 1) []
theorem k_start {s : Sg} {L : Nat → Lw} {S : Nat} {h : qa_M} (w : WF s) (wl : ∀ k, k + 1 = gL s → WL (L k)) (nt : NearT h) (sp : SP s L h) (r : RelS 3 s h) (hS : S < 2 ^ gT s) :
    qW (m_X7_start (nn S) h) (fun g => NSp s L S g ∧ g.1 22 12 = 0 ∧ g.2.1 32 0 = (if hopl s S then 0 else if nT s = 0 then 4611686018427387904 else msk (okB s L S) [])) := by
  have l10 := w.t.2
  have hn := w.n
  have hS2 : S < 1024 := by
    have : 2 ^ gT s ≤ 2 ^ 10 := Nat.pow_le_pow_right (by omega) l10
    omega
  unfold m_X7_start
  simp only [qbd_x]
  unfold f_X7_start_b25_loop
  have f0 : qfr [(22, 8), (22, 9), (22, 13), (27, 0)] h (qw_I (qw_I (qw_I h 22 7 0) 22 8 0) 22 12 0) := qfr_Ik rfl (by simp) (qfr_Ik rfl (by simp) (qfr_Ik rfl (by simp) qfr_rf))
  refine qW_for 4 (fun i t => ∃ g, t = (nn S, nn i, g) ∧ qfr [(22, 8), (22, 9), (22, 13), (27, 0)] h g ∧ g.1 22 7 = 0 ∧ g.1 22 8 = 0 ∧ g.1 22 12 = 0 ∧ ∀ j, j < i → g.2.1 27 j = alw s L j) ?_ ?_ (by omega : 0 ≤ 4) ⟨_, rfl, f0, by rw [wI_ne (by omega), wI_ne (by omega), wI_at], by rw [wI_ne (by omega), wI_at], wI_at, fun j hj => by omega⟩
  · rintro i t hi ⟨g, rfl, fg, g7, g8, g12, gj⟩
    show qW (f_X7_start_b25 (nn S) (nn i) g) _
    unfold f_X7_start_b25 m_X3_open
    have rg := RelS_fr r fg (fun c j h1 h2 => by unfold inW; simp; omega)
    have eb : g.2.1 24 i = mkm (fun q => thr s q && brS s L q i) 36 := by rw [(fg.1 24 i rfl).2.1]; exact sp.2.2.1 i hi
    rw [if_neg (by rw [show (4 : Int32) = nn 4 from rfl, nn_le (by omega) (by omega)]; omega), qbn_s]
    simp (disch := first | omega | decide) only [qbn_x, qbv_x, qup_x, qbd_x, qck_nn, qck_ok, nn_cl, nn_add1, lx0, lx1, lx2, lx3, lx4, lx5, lx6, lx7, lx8, lx9, lx10, bi_e0, bi_e1]
    rw [rg.1.2.1.1, rg.1.2.1.2, eb, qW_some]
    have ea : (mkm (thr s) 36 &&& (mkm (isW s) 36 ^^^ (-1))) &&& (mkm (fun q => thr s q && brS s L q i) 36 ^^^ (-1)) = alw s L i := by
      rw [mkm_and (by omega), mkm_and (by omega)]
      apply mkm_congr
      intro q h36
      rw [tb_not (by omega), tb_not (by omega), tb_mkm (by omega), tb_mkm (by omega), decide_eq_true h36]
      cases thr s q <;> cases isW s q <;> cases brS s L q i <;> rfl
    rw [ea]
    refine ⟨_, rfl, qfr_J0 rfl (by simp) fg, g7, g8, g12, fun j hj => ?_⟩
    by_cases c : j = i
    · subst c; exact wJ_at
    · rw [wJ_ne (fun q => c q.2)]; exact gj j (by omega)
  · rintro t ⟨g, rfl, fg, g7, g8, g12, gj⟩
    show qW (f_X7_start_b25 (nn S) (nn 4) g) _
    unfold f_X7_start_b25 f_X7_start_b57
    rw [if_pos (by decide), qbd_e, qW_up]
    unfold f_X7_start_b59_loop
    have n0 : NSc s L S 0 g := by
      refine ⟨g8, fun m hm => by omega, fun i hi => ?_, g7⟩
      rw [gj i hi]
      unfold alw
      apply mkm_congr
      intro q h36
      show _ = (_ && true)
      rw [tb_mkm (by omega), decide_eq_true h36, Bool.and_true, Bool.true_and]
    refine qW_for (gT s) (fun c t => ∃ g2, t = (nn S, nn c, g2) ∧ qfr [(22, 8), (22, 9), (22, 13), (27, 0), (28, 0), (29, 0), (30, 0)] h g2 ∧ NSc s L S c g2 ∧ g2.1 22 12 = 0) ?_ ?_ (Nat.zero_le _) ⟨g, rfl, qfr_sub (qsub_c (by simp) (qsub_c (by simp) (qsub_c (by simp) (qsub_c (by simp) qsub_nil)))) fg, n0, g12⟩
    · rintro c t hc ⟨g2, rfl, f2, n2, g212⟩
      have rg := RelS_fr r f2 (fun c j h1 h2 => by unfold inW; simp; omega)
      obtain ⟨m1, m2, m3, m4⟩ := w.ns hc
      have e31 : g2.1 3 1 = nn (gT s) := rg.2.1.trans w.t.1
      show qW (f_X7_start_b59 (nn S) (nn c) g2) _
      unfold f_X7_start_b59 f_X7_start_b106 m_X8_sort m_X8_sure
      rw [e31, if_neg (fun q => by rw [nn_le (by omega) (by omega)] at q; omega), nn_bit c (by omega) S hS2]
      rcases mb2 (S.testBit c) with e | e
      · rw [e, if_neg (by decide), show (3 : Int32) = nn 3 from rfl, k_fact w rg hc (by omega), qbn_s, qbn_s, show (4 : Int32) = nn 4 from rfl, k_fact w rg hc (by omega), qbn_s, qbn_s, k_region w rg hc, qbn_s, show s (7 + 3) c = nn (nSort s c) from m1, show s (7 + 4) c = s 11 c from rfl, qW_bv]
        refine qW_fr (k_heed w rg hc e n2) (fun g e => fr_X7_heed _ _ _ _ e) ?_
        intro g3 n3 f3
        have f3 : qfr [(22, 8), (22, 9), (27, 0), (28, 0), (29, 0), (30, 0)] g2 g3 := f3
        rw [qbd_e, nn_add1, qW_some]
        refine ⟨g3, rfl, qfr_tr f2 (qfr_sub (qsub_c (by simp) (qsub_c (by simp) (qsub_c (by simp) (qsub_c (by simp) (qsub_c (by simp) (qsub_c (by simp) qsub_nil)))))) f3), n3, ?_⟩
        rw [(f3.1 22 12 rfl).1]; exact g212
      · rw [e, if_pos (by decide), qbd_e, nn_add1, qW_some]
        refine ⟨g2, rfl, f2, ?_, g212⟩
        obtain ⟨a1, a2, a3, a4⟩ := n2
        have hp : pCt s S c = false := by unfold pCt; rw [e]; rfl
        refine ⟨by rw [a1, cnt_f hp], fun m hm hpm => ?_, fun i hi => ?_, ?_⟩
        · have : m < c := by
            rcases Nat.lt_or_ge m c with q | q
            · exact q
            · rw [show m = c by omega, hp] at hpm; cases hpm
          exact a2 m this hpm
        · rw [a3 i hi]
          apply mkm_congr
          intro q _
          rw [alF_snoc, Nat.zero_add, e]
          simp
        · rw [a4]
          show _ = bi (exN _ c || (S.testBit c && (decide (sur s c < 0) && decide (mny s (nSort s c) = 0))))
          rw [e]
          simp
    · rintro t ⟨g2, rfl, f2, n2, g212⟩
      have rg := RelS_fr r f2 (fun c j h1 h2 => by unfold inW; simp; omega)
      have e31 : g2.1 3 1 = nn (gT s) := rg.2.1.trans w.t.1
      have sp2 : SP s L g2 := SP_fr sp f2 rfl (fun b j h1 h2 => by unfold inW; simp; omega)
      have nt2 : NearT g2 := Near_fr nt f2 (fun j => rfl)
      have np := NSc_p n2
      show qW (f_X7_start_b59 (nn S) (nn (gT s)) g2) _
      unfold f_X7_start_b59 f_X7_start_b112
      rw [e31, if_pos ((nn_le (by omega) (by omega)).mpr (by omega)), qW_up, n2.2.2.2]
      have fin : ∀ x : Int64, NSp s L S (qw_J g2 32 0 x) ∧ (qw_J g2 32 0 x).1 22 12 = 0 ∧ (qw_J g2 32 0 x).2.1 32 0 = x := by
        intro x
        refine ⟨⟨np.1, fun m hm hp => ?_, fun i hi => ?_⟩, g212, wJ_at⟩
        · rw [wJ_ne (by omega)]; exact np.2.1 m hm hp
        · rw [wJ_ne (by omega)]; exact np.2.2 i hi
      rcases mb2 (hopl s S) with e | e
      · rw [show exN (fun m => S.testBit m && (decide (sur s m < 0) && decide (mny s (nSort s m) = 0))) (gT s) = true from e, if_neg (by decide)]
        simp (disch := first | omega | decide) only [qbn_x, qbv_x, qup_x, qbd_x, qck_nn, qck_ok, nn_cl, nn_add1, lx0, lx1, lx2, lx3, lx4, lx5, lx6, lx7, lx8, lx9, lx10, bi_e0, bi_e1]
        rw [qW_some, e, if_pos rfl]
        exact fin 0
      · rw [show exN (fun m => S.testBit m && (decide (sur s m < 0) && decide (mny s (nSort s m) = 0))) (gT s) = false from e, if_pos (by decide), sp2.1, e, if_neg (show ¬ (false = true) by decide)]
        unfold f_X7_start_b152
        by_cases c : nT s = 0
        · rw [if_pos (show nn (nT s) = 0 by rw [c]; rfl), if_pos c]
          simp (disch := first | omega | decide) only [qbn_x, qbv_x, qup_x, qbd_x, qck_nn, qck_ok, nn_cl, nn_add1, lx0, lx1, lx2, lx3, lx4, lx5, lx6, lx7, lx8, lx9, lx10, bi_e0, bi_e1]
          rw [qW_some]
          exact fin _
        · rw [if_neg (show ¬ nn (nT s) = 0 by rw [show (0 : Int32) = nn 0 from rfl, nn_eq (by omega) (by omega)]; exact c), if_neg c]
          have kr := k_room (st := []) w wl nt2 sp2 np trivial trivial (by show 0 < nT s; omega)
          rw [show (0 : Int32) = nn ([] : List Nat).length from rfl, kr, qbn_s]
          rw [show nn ([] : List Nat).length = (0 : Int32) from rfl]
          simp (disch := first | omega | decide) only [qbn_x, qbv_x, qup_x, qbd_x, qck_nn, qck_ok, nn_cl, nn_add1, lx0, lx1, lx2, lx3, lx4, lx5, lx6, lx7, lx8, lx9, lx10, bi_e0, bi_e1]
          rw [qW_some]
          exact fin _
