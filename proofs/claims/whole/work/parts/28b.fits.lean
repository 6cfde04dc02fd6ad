/-! HOW MANY LAYINGS FIT EACH SET: the class -/
def spk (s : Sg) (o q : Nat) : Nat := nmk (fun m => decide (nSort s m = o) && tb (reg s m) q) (gT s)
def bsP (s : Sg) (c m : Nat) : Bool := if c = 4 then decide (sur s m < 0) else decide (sur s m = c)
def bsr (s : Sg) (c : Nat) : Nat := nmk (bsP s c) (gT s)
theorem nn_shb : ∀ k, k < 10 → ∀ b : Bool, nn (if b then 1 else 0) <<< (nn k &&& 31) = nn (if b then 2 ^ k else 0) := by decide +kernel
theorem nmk_or0 {p : Nat → Bool} {k : Nat} (h : p k = false) : nmk p (k + 1) = nmk p k := by
  show nmk p k + (if p k = true then 2 ^ k else 0) = _
  rw [if_neg (by rw [h]; decide)]
  rfl
theorem nmk_or1 {p : Nat → Bool} {k : Nat} (h : p k = true) : nmk p k ||| 2 ^ k = nmk p (k + 1) := by
  rw [← nmk_or, if_pos h]
theorem k_sortNotes {s : Sg} {h : qa_M} (w : WF s) (r : RelS 3 s h) : qW (m_X1_sortNotes h) (fun g => (∀ c, c < 5 → g.1 37 c = nn (bsr s c)) ∧ ∀ o q, o < 4 → q < 36 → g.1 36 (o * 36 + q) = nn (spk s o q)) := by
  have l10 := w.t.2
  have l4 := w.s.2
  unfold m_X1_sortNotes
  rw [qW_bv]
  refine qW_fr (k_fill (h := h) (a := 37) (n := 5) (v := 0) (fun g => wl_37 g) (by omega)) (fun g e => fr_J7_fill_53178 _ _ _ e) ?_
  intro g0 z0 f0
  have f0 : qfr [(37, 0)] h g0 := f0
  rw [qW_bv]
  refine qW_fr (k_fill (h := g0) (a := 36) (n := 144) (v := 0) (fun g => wl_36 g) (by omega)) (fun g e => fr_J7_fill_53178 _ _ _ e) ?_
  intro g1 z1 f1
  have f1 : qfr [(36, 0)] g0 g1 := f1
  have f01 : qfr [(36, 0), (37, 0)] h g1 := qfr_tr (qfr_sub (qsub_c (by simp) qsub_nil) f0) (qfr_sub (qsub_c (by simp) qsub_nil) f1)
  rw [qbd_e]
  unfold f_X1_sortNotes_b18_loop
  refine qW_for (gT s) (fun i t => ∃ g, t = (nn i, g) ∧ qfr [(36, 0), (37, 0)] h g ∧ (∀ c, c < 5 → g.1 37 c = nn (nmk (bsP s c) i)) ∧ ∀ o q, o < 4 → q < 36 → g.1 36 (o * 36 + q) = nn (nmk (fun m => decide (nSort s m = o) && tb (reg s m) q) i)) ?_ ?_ (Nat.zero_le _) ⟨g1, rfl, f01, fun c hc => by rw [(f1.1 37 c rfl).1, z0 c hc]; rfl, fun o q ho hq => by rw [z1 _ (by omega)]; rfl⟩
  · rintro i t hi ⟨g, rfl, fg, hA, hB⟩
    have rg := RelS_fr r fg (fun c j h1 h2 => by unfold inW; simp; omega)
    obtain ⟨m1, m2, m3, m4⟩ := w.ns hi
    have e31 : g.1 3 1 = nn (gT s) := rg.2.1.trans w.t.1
    have main : ∀ c, c < 5 → bsP s c i = true → (∀ d, d < 5 → d ≠ c → bsP s d i = false) → qW (f_X1_sortNotes_b45 (nn i) (nn c) g) (Sum.elim (fun t => ∃ g, t = (nn (i + 1), g) ∧ qfr [(36, 0), (37, 0)] h g ∧ (∀ c, c < 5 → g.1 37 c = nn (nmk (bsP s c) (i + 1))) ∧ ∀ o q, o < 4 → q < 36 → g.1 36 (o * 36 + q) = nn (nmk (fun m => decide (nSort s m = o) && tb (reg s m) q) (i + 1))) (fun g => (∀ c, c < 5 → g.1 37 c = nn (bsr s c)) ∧ ∀ o q, o < 4 → q < 36 → g.1 36 (o * 36 + q) = nn (spk s o q))) := by
      intro c hc hp hd
      unfold f_X1_sortNotes_b45
      rw [qck_nn hc (by omega), qck_nn hc (by omega), nn_cl (by omega), hA c hc, nn_sh1 (by omega), nn_or, nmk_or1 hp, qbd_e]
      obtain ⟨G, hG⟩ : ∃ G, G = qw_I g 37 c (nn (nmk (bsP s c) (i + 1))) := ⟨_, rfl⟩
      rw [← hG]
      have fG : qfr [(36, 0), (37, 0)] h G := by rw [hG]; exact qfr_I0 rfl (by simp) fg
      have rG := RelS_fr r fG (fun c j h1 h2 => by unfold inW; simp; omega)
      have A2 : ∀ d, d < 5 → G.1 37 d = nn (nmk (bsP s d) (i + 1)) := by
        intro d h5
        rw [hG]
        by_cases e : d = c
        · subst e; exact wI_at
        · rw [wI_ne (fun q => e q.2), hA d h5, nmk_or0 (hd d h5 e)]
      have B2 : ∀ o q, o < 4 → q < 36 → G.1 36 (o * 36 + q) = nn (nmk (fun m => decide (nSort s m = o) && tb (reg s m) q) i) := by
        intro o q ho hq
        rw [hG, wI_ne (by omega)]
        exact hB o q ho hq
      rw [k_region w rG hi, qbn_s, qbd_e, qbd_e]
      unfold f_X1_sortNotes_b62_loop
      refine qW_for 36 (fun k t => ∃ g, t = (nn i, reg s i, nn k, g) ∧ qfr [(36, 0), (37, 0)] h g ∧ (∀ c, c < 5 → g.1 37 c = nn (nmk (bsP s c) (i + 1))) ∧ ∀ o q, o < 4 → q < 36 → g.1 36 (o * 36 + q) = nn (nmk (fun m => decide (nSort s m = o) && tb (reg s m) q) (if o ≠ nSort s i ∨ q < k then i + 1 else i))) ?_ ?_ (by omega : 0 ≤ 36) ⟨G, rfl, fG, A2, fun o q ho hq => ?_⟩
      · rintro k t hk ⟨g2, rfl, f2, hA2, hB2⟩
        have r2 := RelS_fr r f2 (fun c j h1 h2 => by unfold inW; simp; omega)
        show qW (f_X1_sortNotes_b62 (nn i) (reg s i) (nn k) g2) _
        unfold f_X1_sortNotes_b62 m_X8_sort
        rw [if_neg (fun q => by rw [show (36 : Int32) = nn 36 from rfl, nn_le (by omega) (by omega)] at q; omega), show (3 : Int32) = nn 3 from rfl, k_fact w r2 hi (by omega), qbn_s, qbn_s, show s (7 + 3) i = nn (nSort s i) from m1, show (36 : Int32) = nn 36 from rfl, nn_mul, nn_add]
        simp (disch := first | omega | decide) only [qbn_x, qbv_x, qup_x, qbd_x, qck_nn, qck_ok, nn_cl, nn_add1, lx0, lx1, lx2, lx3, lx4, lx5, lx6, lx7, lx8, lx9, lx10, bi_e0, bi_e1]
        rw [tb_g32 (by omega), nn_shb i (by omega), hB2 _ _ (by omega) hk, if_neg (by omega), nn_or, qW_some]
        have hor : nmk (fun m => decide (nSort s m = nSort s i) && tb (reg s m) k) i ||| (if tb (reg s i) k = true then 2 ^ i else 0) = nmk (fun m => decide (nSort s m = nSort s i) && tb (reg s m) k) (i + 1) := by
          rw [← nmk_or, decide_eq_true rfl, Bool.true_and]
        rw [hor]
        refine ⟨_, rfl, qfr_I0 rfl (by simp) f2, fun c hc => by rw [wI_ne (by omega)]; exact hA2 c hc, fun o q ho hq => ?_⟩
        by_cases e : o = nSort s i ∧ q = k
        · obtain ⟨rfl, rfl⟩ := e
          rw [wI_at, if_pos (by omega)]
        · rw [wI_ne (by omega), hB2 o q ho hq]
          by_cases e2 : o ≠ nSort s i ∨ q < k
          · rw [if_pos e2, if_pos (by omega)]
          · rw [if_neg e2, if_neg (by omega)]
      · rintro t ⟨g2, rfl, f2, hA2, hB2⟩
        show qW (f_X1_sortNotes_b62 (nn i) (reg s i) (nn 36) g2) _
        unfold f_X1_sortNotes_b62 f_X1_sortNotes_b104
        rw [if_pos (by decide), qbd_e, nn_add1, qup_s, qW_some]
        exact ⟨g2, rfl, f2, hA2, fun o q ho hq => by rw [hB2 o q ho hq, if_pos (.inr hq)]⟩
      · rw [B2 o q ho hq]
        by_cases e : o = nSort s i
        · rw [if_neg (by omega)]
        · rw [if_pos (.inl e), nmk_or0 (p := fun m => decide (nSort s m = o) && tb (reg s m) q) (by rw [decide_eq_false (fun q => e q.symm)]; rfl)]
    show qW (f_X1_sortNotes_b18 (nn i) g) _
    unfold f_X1_sortNotes_b18 m_X8_sure
    rw [e31, if_neg (fun q => by rw [nn_le (by omega) (by omega)] at q; omega), show (4 : Int32) = nn 4 from rfl, k_fact w rg hi (by omega), qbn_s, qbn_s, qbd_e, show s (7 + 4) i = s 11 i from rfl]
    have z : (0 : Int32).toInt = 0 := rfl
    by_cases c : 0 ≤ s 11 i
    · rw [if_pos c]
      rw [Int32.le_iff_toInt_le] at c
      obtain ⟨n, hn, en⟩ := nn_of (show 0 ≤ (s 11 i).toInt by omega)
      rw [en, nn_toInt hn] at m4
      have hsu : sur s i = n := by unfold sur; rw [en, nn_toInt hn]
      rw [en]
      refine main n (by omega) ?_ (fun d hd hdn => ?_)
      · unfold bsP; rw [if_neg (by omega), hsu, decide_eq_true rfl]
      · unfold bsP
        split
        · rw [decide_eq_false]; omega
        · rw [decide_eq_false]; omega
    · rw [if_neg c]
      rw [Int32.le_iff_toInt_le] at c
      have hsu : sur s i < 0 := by unfold sur; omega
      refine main 4 (by omega) ?_ (fun d hd hdn => ?_)
      · unfold bsP; rw [if_pos rfl, decide_eq_true hsu]
      · unfold bsP
        rw [if_neg hdn, decide_eq_false]
        omega
  · rintro t ⟨g, rfl, fg, hA, hB⟩
    have rg := RelS_fr r fg (fun c j h1 h2 => by unfold inW; simp; omega)
    have e31 : g.1 3 1 = nn (gT s) := rg.2.1.trans w.t.1
    show qW (f_X1_sortNotes_b18 (nn (gT s)) g) _
    unfold f_X1_sortNotes_b18
    rw [e31, if_pos ((nn_le (by omega) (by omega)).mpr (by omega)), qup_s, qW_some]
    exact ⟨hA, hB⟩
/-! groups of squares of which the same notes speak -/
def GrP (sp : Nat → Nat) (k : Nat) (h : qa_M) : Prop := ∃ (G : Nat) (gN : Nat → Nat), h.1 34 4 = nn G ∧ 1 ≤ G ∧ G ≤ k + 1 ∧ (∀ g, g < G → h.1 39 g = nn (gN g) ∧ gN g < 1024) ∧ (∀ a b, a < G → b < G → gN a = gN b → a = b) ∧ gN 0 = 0 ∧ (∀ g, 1 ≤ g → g < G → h.2.1 38 g = mkm (fun q => decide (q < k) && decide (sp q = gN g)) 36) ∧ (∀ x, x < 64 → tb (h.2.1 38 0) x = !(decide (x < k) && !decide (sp x = 0))) ∧ ∀ q, q < k → ∃ g, g < G ∧ gN g = sp q
theorem k_group {h : qa_M} {sp : Nat → Nat} {o : Nat} (ho : o < 4) (hsp : ∀ q, q < 36 → sp q < 1024 ∧ h.1 36 (o * 36 + q) = nn (sp q)) : qW (m_X1_groupSquares (nn o) h) (fun g => GrP sp 36 g) := by
  unfold m_X1_groupSquares
  simp (disch := first | omega | decide) only [qbn_x, qbv_x, qup_x, qbd_x, qck_nn, qck_ok, nn_cl, nn_add1, lx0, lx1, lx2, lx3, lx4, lx5, lx6, lx7, lx8, lx9, lx10, bi_e0, bi_e1]
  unfold f_X1_groupSquares_b23_loop
  have f0 : qfr [(34, 5), (38, 0), (39, 0)] h (qw_I (qw_J (qw_I h 34 4 1) 38 0 (-1)) 39 0 0) := qfr_I0 (a := 39) rfl (by simp) (qfr_J0 (a := 38) rfl (by simp) (qfr_Ik rfl (by simp) qfr_rf))
  refine qW_for 36 (fun k t => ∃ g, t = (nn o, nn k, g) ∧ qfr [(34, 5), (38, 0), (39, 0)] h g ∧ GrP sp k g) ?_ ?_ (by omega : 0 ≤ 36) ⟨_, rfl, f0, 1, fun _ => 0, ?_, by omega, by omega, fun g hg => ⟨?_, (by decide : (0 : Nat) < 1024)⟩, fun a b ha hb _ => by omega, rfl, fun g h1 h2 => by omega, fun x hx => ?_, fun q hq => by omega⟩
  · rintro k t hk ⟨g, rfl, fg, G, gN, e4, g1, g2, gn, gi, g0, gm, gz, gx⟩
    obtain ⟨s1, s2⟩ := hsp k hk
    show qW (f_X1_groupSquares_b23 (nn o) (nn k) g) _
    unfold f_X1_groupSquares_b23
    rw [if_neg (fun q => by rw [show (36 : Int32) = nn 36 from rfl, nn_le (by omega) (by omega)] at q; omega), show (36 : Int32) = nn 36 from rfl, nn_mul, nn_add, qck_nn (by omega) (by omega), nn_cl (by omega), (fg.1 36 _ rfl).1, s2, qbd_e, qbd_e]
    unfold f_X1_groupSquares_b44_loop
    have stepf : ∀ j, j < G → gN j ≠ sp k → f_X1_groupSquares_b44 (nn o) (nn k) (nn (sp k)) (nn j) g = some (.inl (nn o, nn k, nn (sp k), nn (j + 1), g)) := by
      intro j hj hne
      unfold f_X1_groupSquares_b44
      have := (gn j hj).2
      rw [e4, if_neg (fun q => by rw [nn_le (by omega) (by omega)] at q; omega), qck_nn (by omega) (by omega), nn_cl (by omega), (gn j hj).1, if_neg (by rw [nn_eq (by omega) (by omega)]; exact hne), qbd_e, nn_add1]
    let P : ((Int32 × Int32 × qa_M) ⊕ qa_M) → Prop := Sum.elim (fun t => ∃ g, t = (nn o, nn (k + 1), g) ∧ qfr [(34, 5), (38, 0), (39, 0)] h g ∧ GrP sp (k + 1) g) (fun g => GrP sp 36 g)
    have b139 : ∀ g2 : qa_M, qfr [(34, 5), (38, 0), (39, 0)] h g2 → GrP sp (k + 1) g2 → qW (f_X1_groupSquares_b139 (nn o) (nn k) g2) P := by
      intro g2 a b
      unfold f_X1_groupSquares_b139
      rw [qbd_e, nn_add1, qW_some]
      exact ⟨g2, rfl, a, b⟩
    have b105 : ∀ (j G2 : Nat) (gN2 : Nat → Nat) (g2 : qa_M), qfr [(34, 5), (38, 0), (39, 0)] h g2 → j < G2 → G2 ≤ k + 2 → gN2 j = sp k → g2.1 34 4 = nn G2 → (∀ g, g < G2 → g2.1 39 g = nn (gN2 g) ∧ gN2 g < 1024) → (∀ a b, a < G2 → b < G2 → gN2 a = gN2 b → a = b) → gN2 0 = 0 → (∀ g, 1 ≤ g → g < G2 → g2.2.1 38 g = mkm (fun q => decide (q < k) && decide (sp q = gN2 g)) 36) → (∀ x, x < 64 → tb (g2.2.1 38 0) x = !(decide (x < k) && !decide (sp x = 0))) → (∀ q, q < k → ∃ g, g < G2 ∧ gN2 g = sp q) → qW (f_X1_groupSquares_b105 (nn o) (nn k) (nn j) g2) P := by
      intro j G2 gN2 g2 f2 hj hG2 hs e4 gn gi g0 gm gz gx
      unfold f_X1_groupSquares_b105
      by_cases c : j = 0
      · subst c
        rw [g0] at hs
        rw [if_pos (by decide)]
        refine b139 g2 f2 ⟨G2, gN2, e4, by omega, by omega, gn, gi, g0, fun g h1 h2 => ?_, fun x hx => ?_, fun q hq => ?_⟩
        · rw [gm g h1 h2]
          apply mkm_congr
          intro q _
          by_cases d : q = k
          · subst d
            have : ¬ (sp q = gN2 g) := fun e => by have := gi 0 g (by omega) h2 (by rw [g0, hs, e]); omega
            rw [decide_eq_false this, Bool.and_false, Bool.and_false]
          · rw [show decide (q < k + 1) = decide (q < k) by rw [decide_eq_decide]; omega]
        · rw [gz x hx]
          by_cases d : x = k
          · subst d
            rw [decide_eq_true hs.symm]
            simp
          · rw [show decide (x < k + 1) = decide (x < k) by rw [decide_eq_decide]; omega]
        · by_cases d : q = k
          · subst d; exact ⟨0, by omega, by rw [g0, hs]⟩
          · exact gx q (by omega)
      · rw [if_neg (by rw [show (0 : Int32) = nn 0 from rfl, nn_le (by omega) (by omega)]; omega)]
        simp (disch := first | omega | decide) only [qbn_x, qbv_x, qup_x, qbd_x, qck_nn, qck_ok, nn_cl, nn_add1, lx0, lx1, lx2, lx3, lx4, lx5, lx6, lx7, lx8, lx9, lx10, bi_e0, bi_e1]
        rw [wJ_ne (show ¬ ((38 : Nat) = 38 ∧ 0 = j) by omega)]
        have hne : ¬ (sp k = 0) := fun e => by have := gi j 0 hj (by omega) (by rw [hs, e, g0]); omega
        refine b139 _ (qfr_J0 (a := 38) rfl (by simp) (qfr_J0 (a := 38) rfl (by simp) f2)) ⟨G2, gN2, e4, by omega, by omega, gn, gi, g0, fun g h1 h2 => ?_, fun x hx => ?_, fun q hq => ?_⟩
        · rw [wJ_ne (by omega)]
          by_cases d : g = j
          · subst d
            rw [wJ_at, gm g h1 h2]
            refine mkm_of (by omega) (fun x hx => ?_)
            rw [tb_or, tb_mkm (by omega), tb_bit (by omega)]
            by_cases d2 : x = k
            · subst d2
              rw [decide_eq_true rfl, decide_eq_true hk, decide_eq_true (show x < x + 1 by omega), decide_eq_true hs.symm]
              simp
            · rw [decide_eq_false d2, Bool.or_false, show decide (x < k + 1) = decide (x < k) by rw [decide_eq_decide]; omega]
          · rw [wJ_ne (fun q => d q.2), gm g h1 h2]
            apply mkm_congr
            intro q _
            by_cases d2 : q = k
            · subst d2
              have : ¬ (sp q = gN2 g) := fun e => d (gi g j h2 hj (by rw [hs, e]))
              rw [decide_eq_false this, Bool.and_false, Bool.and_false]
            · rw [show decide (q < k + 1) = decide (q < k) by rw [decide_eq_decide]; omega]
        · rw [wJ_at, tb_and, gz x hx, tb_not hx, tb_bit (by omega)]
          by_cases d : x = k
          · subst d
            rw [decide_eq_true rfl, decide_eq_true (show x < x + 1 by omega), decide_eq_false hne]
            simp
          · rw [decide_eq_false d, show decide (x < k + 1) = decide (x < k) by rw [decide_eq_decide]; omega]
            simp
        · by_cases d : q = k
          · subst d; exact ⟨j, hj, hs⟩
          · exact gx q (by omega)
    rcases first_of (fun g => decide (gN g = sp k)) G with ⟨j, hj, ej, el⟩ | hno
    · have ej : gN j = sp k := of_decide_eq_true ej
      refine qW_to (fun j => (nn o, nn k, nn (sp k), nn j, g)) j 0 (fun i h1 h2 => stepf i (by omega) (of_decide_eq_false (el i (by omega)))) ?_
      rw [Nat.zero_add]
      show qW (f_X1_groupSquares_b44 (nn o) (nn k) (nn (sp k)) (nn j) g) _
      unfold f_X1_groupSquares_b44 f_X1_groupSquares_b70
      rw [e4, if_neg (fun q => by rw [nn_le (by omega) (by omega)] at q; omega), qck_nn (by omega) (by omega), nn_cl (by omega), (gn j hj).1, if_pos (by rw [ej]), if_neg (by rw [nn_eq (by omega) (by omega)]; omega), qW_up]
      exact b105 j G gN g fg hj (by omega) ej e4 gn gi g0 gm gz gx
    · refine qW_to (fun j => (nn o, nn k, nn (sp k), nn j, g)) G 0 (fun i h1 h2 => stepf i (by omega) (of_decide_eq_false (hno i (by omega)))) ?_
      rw [Nat.zero_add]
      show qW (f_X1_groupSquares_b44 (nn o) (nn k) (nn (sp k)) (nn G) g) _
      unfold f_X1_groupSquares_b44 f_X1_groupSquares_b70
      rw [e4, if_pos ((nn_le (by omega) (by omega)).mpr (by omega)), if_pos rfl, qW_up]
      simp (disch := first | omega | decide) only [qbn_x, qbv_x, qup_x, qbd_x, qck_nn, qck_ok, nn_cl, nn_add1, lx0, lx1, lx2, lx3, lx4, lx5, lx6, lx7, lx8, lx9, lx10, bi_e0, bi_e1]
      have e42 : (qw_J (qw_I g 39 G (nn (sp k))) 38 G 0).1 34 4 = nn G := by
        show (qw_I g 39 G (nn (sp k))).1 34 4 = nn G
        rw [wI_ne (by omega)]; exact e4
      rw [e42, nn_add1]
      refine b105 G (G + 1) (fun g => if g = G then sp k else gN g) _ (qfr_Ik rfl (by simp) (qfr_J0 (a := 38) rfl (by simp) (qfr_I0 (a := 39) rfl (by simp) fg))) (by omega) (by omega) (if_pos rfl) wI_at (fun x hx => ?_) (fun a b ha hb e => ?_) ?_ (fun x h1 h2 => ?_) (fun x hx => ?_) (fun q hq => ?_)
      · rw [wI_ne (by omega)]
        show (qw_I g 39 G (nn (sp k))).1 39 x = _ ∧ _
        by_cases d : x = G
        · subst d; rw [wI_at, if_pos rfl]; exact ⟨rfl, s1⟩
        · rw [wI_ne (fun q => d q.2), if_neg d]; exact gn x (by omega)
      · by_cases d1 : a = G
        · by_cases d2 : b = G
          · omega
          · rw [if_pos d1, if_neg d2] at e
            exact absurd e.symm (of_decide_eq_false (hno b (by omega)))
        · by_cases d2 : b = G
          · rw [if_neg d1, if_pos d2] at e
            exact absurd e (of_decide_eq_false (hno a (by omega)))
          · rw [if_neg d1, if_neg d2] at e
            exact gi a b (by omega) (by omega) e
      · show (if 0 = G then sp k else gN 0) = 0
        rw [if_neg (by omega)]; exact g0
      · show (qw_J (qw_I g 39 G (nn (sp k))) 38 G 0).2.1 38 x = _
        by_cases d : x = G
        · subst d
          rw [wJ_at, mkm_congr (q := fun _ => false) (fun q _ => ?_)]
          · rfl
          · rw [if_pos rfl]
            by_cases d2 : q < k
            · obtain ⟨y, y1, y2⟩ := gx q d2
              rw [decide_eq_false (fun e => of_decide_eq_false (hno y y1) (y2.trans e)), Bool.and_false]
            · rw [decide_eq_false d2]; rfl
        · rw [wJ_ne (fun q => d q.2), if_neg d]
          exact gm x h1 (by omega)
      · show tb ((qw_J (qw_I g 39 G (nn (sp k))) 38 G 0).2.1 38 0) x = _
        rw [wJ_ne (by omega)]
        exact gz x hx
      · obtain ⟨y, y1, y2⟩ := gx q hq
        exact ⟨y, by omega, by rw [if_neg (by omega)]; exact y2⟩
  · rintro t ⟨g, rfl, fg, hg⟩
    show qW (f_X1_groupSquares_b23 (nn o) (nn 36) g) _
    unfold f_X1_groupSquares_b23
    rw [if_pos (by decide), qup_s, qW_some]
    exact hg
  · rw [wI_ne (by omega)]
    show (qw_I h 34 4 1).1 34 4 = nn 1
    exact wI_at
  · rw [show g = 0 by omega, wI_at]; rfl
  · show tb ((qw_J (qw_I h 34 4 1) 38 0 (-1)).2.1 38 0) x = _
    rw [wJ_at, tb_m1, decide_eq_true hx, decide_eq_false (by omega)]
    rfl
