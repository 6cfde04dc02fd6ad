/-! A LAND IS READ: the class's clauses -/
def CRs (B : Nat → Nat) (n : Nat) (r : Nat ⊕ (Sg × Nat)) (z : Int32 × qa_M) : Prop := match r with
  | .inl f => CE f z
  | .inr a => z.1 = 1 ∧ CS B n a.1 a.2 z.2
theorem roadM_congr {s t : Sg} {i : Nat} (h4 : t 4 i = s 4 i) (h5 : t 5 i = s 5 i) : roadM t i = roadM s i := by unfold roadM onR; rw [h4, h5]
theorem RelD_c {s : Sg} {h : qa_M} {v : Int32} (r : RelD s h) : RelD (upS s 0 0 v) (qw_I h 14 0 v) := by
  obtain ⟨⟨a0, a1, a2, a3, a4, a5⟩, b, c, d, e⟩ := r
  have q1 : ∀ i j, i ≠ 0 → upS s 0 0 v i j = s i j := fun i j hi => upS_ne (by omega)
  have q0 : ∀ j, j ≠ 0 → upS s 0 0 v 0 j = s 0 j := fun j hj => upS_ne (by omega)
  refine ⟨⟨by rw [wI_at, upS_at], by rw [wI_ne (by omega), q0 1 (by omega)]; exact a1, by rw [wI_ne (by omega), q0 2 (by omega)]; exact a2, by rw [wI_ne (by omega), q0 3 (by omega)]; exact a3, by rw [wI_ne (by omega), q0 4 (by omega)]; exact a4, by rw [wI_ne (by omega)]; exact a5⟩, b, fun i hi => ?_, fun i hi => ?_, fun i hi => ?_⟩
  · rw [wI_ne (by omega), wI_ne (by omega)]; exact c i hi
  · exact d i hi
  · rw [wI_ne (by omega)]; exact e i hi
theorem RelD_r {s : Sg} {h : qa_M} {v : Int32} (r : RelD s h) : RelD (upS s 0 1 v) (qw_I h 14 1 v) := by
  obtain ⟨⟨a0, a1, a2, a3, a4, a5⟩, b, c, d, e⟩ := r
  have q0 : ∀ j, j ≠ 1 → upS s 0 1 v 0 j = s 0 j := fun j hj => upS_ne (by omega)
  refine ⟨⟨by rw [wI_ne (by omega), q0 0 (by omega)]; exact a0, by rw [wI_at, upS_at], by rw [wI_ne (by omega), q0 2 (by omega)]; exact a2, by rw [wI_ne (by omega), q0 3 (by omega)]; exact a3, by rw [wI_ne (by omega), q0 4 (by omega)]; exact a4, by rw [wI_ne (by omega)]; exact a5⟩, b, fun i hi => ?_, fun i hi => ?_, fun i hi => ?_⟩
  · rw [wI_ne (by omega), wI_ne (by omega)]; exact c i hi
  · exact d i hi
  · rw [wI_ne (by omega)]; exact e i hi
theorem k_readWide {B : Nat → Nat} {n p : Nat} {s : Sg} {h : qa_M} (c : CS B n s p h) : qW (m_X4_readWide h) (CRs B n (cWide B n s p)) := by
  unfold m_X4_readWide
  refine k_tk (lo := 2) (hi := 6) c (by omega) (by omega) ?_ ?_
  · intro f g q e7
    rw [if_pos rfl, qW_some]
    have e0 : cWide B n s p = .inl f := by simp only [cWide, pBd, q]
    rw [e0]
    exact ⟨rfl, e7⟩
  · intro v e g q e6 cg h20
    rw [if_neg (by decide), qbd_e, e6]
    have f1 : qfr [(14, 1)] g (qw_I g 14 0 (nn v)) := qfr_Ik rfl (by simp) qfr_rf
    have c1 : CS B n (upS s 0 0 (nn v)) e (qw_I g 14 0 (nn v)) := CS_up cg f1 (fun b j h1 h2 => by unfold inW; simp; omega) (RelD_c cg.2.2.1)
    refine k_tk (lo := 2) (hi := 6) c1 (by omega) (by omega) ?_ ?_
    · intro f g2 q2 e7
      rw [if_pos rfl, qW_some]
      have e0 : cWide B n s p = .inl f := by simp only [cWide, pBd, q, q2]
      rw [e0]
      exact ⟨rfl, e7⟩
    · intro v2 e2 g2 q2 e62 cg2 h202
      rw [if_neg (by decide), qbd_e, e62, qW_some]
      have f2 : qfr [(14, 2)] g2 (qw_I g2 14 1 (nn v2)) := qfr_Ik rfl (by simp) qfr_rf
      have e0 : cWide B n s p = .inr (wiS s v v2, e2) := by simp only [cWide, pBd, q, q2]
      rw [e0]
      exact ⟨rfl, CS_up cg2 f2 (fun b j h1 h2 => by unfold inW; simp; omega) (RelD_r cg2.2.2.1)⟩
theorem k_readWood {B : Nat → Nat} {n p : Nat} {s : Sg} {h : qa_M} (w : WF s) (hC : 2 ≤ gC s) (hR : 2 ≤ gR s) (c : CS B n s p h) : qW (m_X4_readWood h) (CRs B n (cWood B n s p)) := by
  have lc := w.c.2
  have lr := w.r.2
  have hp := c.2.2.2.2
  unfold m_X4_readWood
  rw [qW_bn]
  refine qW_mono (k_readBox w hC hR c) ?_
  rintro ⟨x, g⟩ hz
  cases q : pBox B n s p with
  | inl f =>
    rw [q] at hz
    obtain ⟨z1, z2⟩ := hz
    have z1 : x = 0 := z1
    subst z1
    rw [if_pos rfl, qW_some]
    have e0 : cWood B n s p = .inl f := by simp only [cWood, pBd, q]
    rw [e0]
    exact ⟨rfl, z2⟩
  | inr a =>
    obtain ⟨x1, y1, x2, y2, e⟩ := a
    have ok := pBox_ok q hp hC hR
    rw [q] at hz
    obtain ⟨z1, z2, z3, z4, z5, cg⟩ := hz
    have z1 : x = 1 := z1
    subst z1
    have z2 : g.1 20 2 = nn x1 := z2
    have z3 : g.1 20 3 = nn y1 := z3
    have z4 : g.1 20 4 = nn x2 := z4
    have z5 : g.1 20 5 = nn y2 := z5
    have cg : CS B n s e g := cg
    show qW (if (1 : Int32) = 0 then _ else qbn (m_X2_box (g.1 20 2) (g.1 20 3) (g.1 20 4) (g.1 20 5) g) _) _
    rw [if_neg (by decide), z2, z3, z4, z5, k_box (by omega) (by omega) (by omega) (by omega), qbn_s, qbd_e, qW_some]
    have e0 : cWood B n s p = .inr (wdS s x1 y1 x2 y2, e) := by simp only [cWood, pBd, q]
    rw [e0]
    refine ⟨rfl, CS_up (t := wdS s x1 y1 x2 y2) cg (qfr_Jk (L := [(14, 8)]) rfl (by simp) qfr_rf) (fun b j h1 h2 => by unfold inW; simp; omega) ?_⟩
    obtain ⟨⟨a0, a1, a2, a3, a4, a5⟩, b, c, d, e⟩ := cg.2.2.1
    refine ⟨⟨a0, a1, a2, a3, a4, a5⟩, ?_, c, fun i hi => ?_, e⟩
    · show (qw_J g 14 7 _).2.1 14 7 = _
      rw [wJ_at]
      show g.2.1 14 7 ||| _ = _
      rw [b]
      refine mkm_of (by omega) (fun k hk => ?_)
      rw [tb_or, tb_mkm (by omega), tb_mkm (by omega)]
      show _ = (decide (k < 36) && decide (wdS s x1 y1 x2 y2 1 k = 1))
      unfold wdS
      by_cases c1 : k < 36
      · by_cases c2 : inB x1 y1 x2 y2 k = true
        · rw [if_pos ⟨rfl, c1, c2⟩, c2, decide_eq_true c1]
          simp
        · rw [if_neg (fun q => c2 q.2.2)]
          have c2 : inB x1 y1 x2 y2 k = false := by simpa using c2
          rw [c2]
          simp
      · rw [decide_eq_false c1]
        rfl
    · show (qw_J g 14 7 _).2.1 18 i = _
      rw [wJ_ne (by omega)]
      exact (d i hi).trans (roadM_congr rfl rfl).symm
theorem k_readSort {B : Nat → Nat} {n p : Nat} {s : Sg} {h : qa_M} (w : WF s) (h4 : gS s < 4) (c : CS B n s p h) : qW (m_X4_readSort h) (CRs B n (cSort B n s p)) := by
  have l4 := w.n
  have e4 : h.1 1 4 = nn (sk B n p) := c.2.1.1
  unfold m_X4_readSort
  rw [e4, qbd_e]
  refine k_tk (lo := 0) (hi := 4) c (by omega) (by omega) ?_ ?_
  · intro f g q e7
    rw [if_pos rfl, qW_some]
    have e0 : cSort B n s p = .inl f := by simp only [cSort, pBd, q]
    rw [e0]
    exact ⟨rfl, e7⟩
  · intro v e g q e6 cg h20
    have ok := pNum_ok q c.2.2.2.2
    have e5 : g.1 14 5 = nn (nT s) := cg.2.2.1.1.2.2.2.2.2
    have eS : g.1 14 4 = nn (gS s) := cg.2.2.1.1.2.2.2.2.1.trans w.s.1
    rw [if_neg (by decide), e6, e5, nn_add, eS]
    by_cases c1 : nT s + v ≤ 4
    · rw [if_pos (by exact (nn_le (by omega) (b := 4) (by omega)).mpr c1), qck_nn (by omega) (by omega), qbd_e, qbd_e, qbd_e, qW_some, nn_cl (by omega), wI_ne (by omega), eS, nn_add1, wI_ne (by omega), wI_ne (by omega), wI_ne (by omega), wI_ne (by omega), e5, e6, nn_add]
      have e0 : cSort B n s p = .inr (srS s v, e) := by simp only [cSort, pBd, q]; rw [if_pos c1]
      rw [e0]
      refine ⟨rfl, CS_up (t := srS s v) cg (W := [(14, 5), (14, 6), (19, 0)]) (qfr_Ik rfl (by simp) (qfr_Ik rfl (by simp) (qfr_I0 rfl (by simp) qfr_rf))) (fun b j h1 h2 => by unfold inW; simp; omega) ?_⟩
      obtain ⟨⟨a0, a1, a2, a3, a4, a5⟩, b, c, d, e⟩ := cg.2.2.1
      have q0 : ∀ j, j ≠ 4 → srS s v 0 j = s 0 j := fun j hj => by unfold srS; rw [upS_ne (by omega), upS_ne (by omega)]
      refine ⟨⟨?_, ?_, ?_, ?_, ?_, ?_⟩, ?_, fun i hi => ?_, fun i hi => ?_, fun i hi => ?_⟩
      · rw [wI_ne (by omega), wI_ne (by omega), wI_ne (by omega), q0 0 (by omega)]; exact a0
      · rw [wI_ne (by omega), wI_ne (by omega), wI_ne (by omega), q0 1 (by omega)]; exact a1
      · rw [wI_ne (by omega), wI_ne (by omega), wI_ne (by omega), q0 2 (by omega)]; exact a2
      · rw [wI_ne (by omega), wI_ne (by omega), wI_ne (by omega), q0 3 (by omega)]; exact a3
      · rw [wI_ne (by omega), wI_at]; unfold srS; rw [upS_at]
      · rw [wI_at, nT_sr w (by omega)]
      · exact b
      · rw [wI_ne (by omega), wI_ne (by omega), wI_ne (by omega), wI_ne (by omega), wI_ne (by omega), wI_ne (by omega)]
        exact c i hi
      · exact d i hi
      · rw [gS_sr w] at hi
        rw [wI_ne (by omega), wI_ne (by omega)]
        by_cases ci : i = gS s
        · subst ci
          rw [wI_at]
          unfold srS
          rw [upS_ne (by omega), upS_at]
        · rw [wI_ne (by omega), e i (by omega)]
          unfold srS
          rw [upS_ne (by omega), upS_ne (by omega)]
    · rw [if_neg (fun q => by exact c1 ((nn_le (by omega) (b := 4) (by omega)).mp q)), show (5 : Int32) = nn 5 from rfl, k_failAt cg.2.2.2.1, qbn_s, qpr_t (by decide), qW_some]
      have e0 : cSort B n s p = .inl (ER (sk B n p) 5) := by simp only [cSort, pBd, q]; rw [if_neg c1]
      rw [e0]
      exact ⟨rfl, wI_at⟩
theorem k_readRoad {B : Nat → Nat} {n p : Nat} {s : Sg} {h : qa_M} (w : WF s) (hC : 2 ≤ gC s) (hR : 2 ≤ gR s) (h6 : gO s < 6) (c : CS B n s p h) : qW (m_X4_readRoad h) (CRs B n (cRoad B n s p)) := by
  have lc := w.c.2
  have lr := w.r.2
  have hp := c.2.2.2.2
  have e4 : h.1 1 4 = nn (sk B n p) := c.2.1.1
  unfold m_X4_readRoad
  rw [e4, qbd_e, qW_bn]
  refine qW_mono (k_readBox w hC hR c) ?_
  rintro ⟨x, g⟩ hz
  cases q : pBox B n s p with
  | inl f =>
    rw [q] at hz
    obtain ⟨z1, z2⟩ := hz
    have z1 : x = 0 := z1
    subst z1
    rw [if_pos rfl, qW_some]
    have e0 : cRoad B n s p = .inl f := by simp only [cRoad, pBd, q]
    rw [e0]
    exact ⟨rfl, z2⟩
  | inr a =>
    obtain ⟨x1, y1, x2, y2, e⟩ := a
    have ok := pBox_ok q hp hC hR
    rw [q] at hz
    obtain ⟨z1, z2, z3, z4, z5, cg⟩ := hz
    have z1 : x = 1 := z1
    subst z1
    have z2 : g.1 20 2 = nn x1 := z2
    have z3 : g.1 20 3 = nn y1 := z3
    have z4 : g.1 20 4 = nn x2 := z4
    have z5 : g.1 20 5 = nn y2 := z5
    have cg : CS B n s e g := cg
    have eO : g.1 14 3 = nn (gO s) := cg.2.2.1.1.2.2.2.1.trans w.o.1
    have good : (x1 = x2 ∨ y1 = y2) → qW (f_X4_readRoad_b49 g) (CRs B n (cRoad B n s p)) := by
      intro hg
      unfold f_X4_readRoad_b49
      rw [z2, z3, z4, z5, k_box (by omega) (by omega) (by omega) (by omega), qbn_s, eO, qck_nn (by omega) (by omega), qbd_e, qbd_e, qW_some, nn_cl (by omega)]
      show CRs B n _ (1, qw_I (qw_J g 18 (gO s) _) 14 3 (g.1 14 3 + 1))
      rw [eO, nn_add1]
      have e0 : cRoad B n s p = .inr (rdS s (6 * y1 + x1) (6 * y2 + x2), e) := by simp only [cRoad, pBd, q]; rw [if_pos hg]
      rw [e0]
      refine ⟨rfl, CS_up (t := rdS s (6 * y1 + x1) (6 * y2 + x2)) cg (W := [(14, 4), (18, 0)]) (qfr_Ik rfl (by simp) (qfr_J0 rfl (by simp) qfr_rf)) (fun b j h1 h2 => by unfold inW; simp; omega) ?_⟩
      obtain ⟨⟨a0, a1, a2, a3, a4, a5⟩, b, c, d, e⟩ := cg.2.2.1
      have q0 : ∀ j, j ≠ 3 → rdS s (6 * y1 + x1) (6 * y2 + x2) 0 j = s 0 j := fun j hj => by unfold rdS; rw [upS_ne (by omega), upS_ne (by omega), upS_ne (by omega)]
      refine ⟨⟨?_, ?_, ?_, ?_, ?_, ?_⟩, ?_, fun i hi => ?_, fun i hi => ?_, fun i hi => ?_⟩
      · rw [wI_ne (by omega), q0 0 (by omega)]; exact a0
      · rw [wI_ne (by omega), q0 1 (by omega)]; exact a1
      · rw [wI_ne (by omega), q0 2 (by omega)]; exact a2
      · rw [wI_at]; unfold rdS; rw [upS_at]
      · rw [wI_ne (by omega), q0 4 (by omega)]; exact a4
      · rw [wI_ne (by omega)]; exact a5
      · show (qw_J g 18 (gO s) _).2.1 14 7 = _
        rw [wJ_ne (by omega)]
        exact b
      · rw [wI_ne (by omega), wI_ne (by omega)]
        exact c i hi
      · rw [gO_rd w] at hi
        show (qw_J g 18 (gO s) _).2.1 18 i = _
        by_cases ci : i = gO s
        · subst ci
          rw [wJ_at]
          have q4 : rdS s (6 * y1 + x1) (6 * y2 + x2) 4 (gO s) = nn (6 * y1 + x1) := by unfold rdS; rw [upS_ne (by omega), upS_ne (by omega), upS_at]
          have q5 : rdS s (6 * y1 + x1) (6 * y2 + x2) 5 (gO s) = nn (6 * y2 + x2) := by unfold rdS; rw [upS_ne (by omega), upS_at]
          unfold roadM
          refine mkm_congr (fun k hk => ?_)
          unfold inB onR
          rw [q4, q5, cN_nn (by omega), cN_nn (by omega)]
          rw [show (6 * y1 + x1) % 6 = x1 by omega, show (6 * y2 + x2) % 6 = x2 by omega, show (6 * y1 + x1) / 6 = y1 by omega, show (6 * y2 + x2) / 6 = y2 by omega]
        · rw [wJ_ne (by omega), d i (by omega)]
          refine (roadM_congr ?_ ?_).symm
          · unfold rdS; rw [upS_ne (by omega), upS_ne (by omega), upS_ne (by omega)]
          · unfold rdS; rw [upS_ne (by omega), upS_ne (by omega), upS_ne (by omega)]
      · rw [wI_ne (by omega)]
        exact e i hi
    show qW (if (1 : Int32) = 0 then _ else if g.1 20 2 = g.1 20 4 then f_X4_readRoad_b49 g else if g.1 20 3 = g.1 20 5 then f_X4_readRoad_b49 g else qbn (m_X9_failAt (nn (sk B n p)) 5 g) _) _
    rw [if_neg (by decide), z2, z3, z4, z5]
    by_cases c1 : x1 = x2
    · rw [if_pos (by rw [c1])]
      exact good (.inl c1)
    · rw [if_neg (fun q => by rw [nn_eq (by omega) (by omega)] at q; exact c1 q)]
      by_cases c2 : y1 = y2
      · rw [if_pos (by rw [c2])]
        exact good (.inr c2)
      · rw [if_neg (fun q => by rw [nn_eq (by omega) (by omega)] at q; exact c2 q), show (5 : Int32) = nn 5 from rfl, k_failAt cg.2.2.2.1, qbn_s, qpr_t (by decide), qW_some]
        have e0 : cRoad B n s p = .inl (ER (sk B n p) 5) := by simp only [cRoad, pBd, q]; rw [if_neg (by omega)]
        rw [e0]
        exact ⟨rfl, wI_at⟩
theorem k_readHill {B : Nat → Nat} {n p : Nat} {s : Sg} {h : qa_M} (w : WF s) (hC : 2 ≤ gC s) (hR : 2 ≤ gR s) (h8 : gH s < 8) (c : CS B n s p h) : qW (m_X4_readHill h) (CRs B n (cHill B n s p)) := by
  have lc := w.c.2
  have lr := w.r.2
  have hp := c.2.2.2.2
  have e4 : h.1 1 4 = nn (sk B n p) := c.2.1.1
  unfold m_X4_readHill
  rw [e4, qbd_e, qW_bn]
  refine qW_mono (k_readSquare w hC hR c) ?_
  rintro ⟨x, g⟩ hz
  cases q : pSq B n s p with
  | inl f =>
    rw [q] at hz
    obtain ⟨z1, z2⟩ := hz
    have z1 : x = 0 := z1
    subst z1
    rw [if_pos rfl, qW_some]
    have e0 : cHill B n s p = .inl f := by simp only [cHill, pBd, q]
    rw [e0]
    exact ⟨rfl, z2⟩
  | inr a =>
    obtain ⟨x1, y1, e⟩ := a
    have ok := pSq_ok q hp hC hR
    rw [q] at hz
    obtain ⟨z1, z2, z3, cg⟩ := hz
    have z1 : x = 1 := z1
    subst z1
    have z2 : g.1 20 2 = nn x1 := z2
    have z3 : g.1 20 3 = nn y1 := z3
    have cg : CS B n s e g := cg
    have eH : g.1 14 2 = nn (gH s) := cg.2.2.1.1.2.2.1.trans w.h.1
    show qW (if (1 : Int32) = 0 then _ else qbn (m_X3_hillOn 14 ((6 * g.1 20 3) + g.1 20 2) g) _) _
    rw [if_neg (by decide), z2, z3, show (6 : Int32) = nn 6 from rfl, nn_mul, nn_add, k_hillOn eH w.h.2, qbn_s, fstI_congr (fun k hk => by rw [(cg.2.2.1.2.2.1 k hk).1])]
    rw [show fstI (fun k => decide (s 2 k = nn (6 * y1 + x1))) (gH s) = hon s (6 * y1 + x1) from rfl]
    by_cases ch : hon s (6 * y1 + x1) = -1
    · rw [if_pos ch]
      refine k_tk (lo := 1) (hi := 9) cg (by omega) (by omega) ?_ ?_
      · intro f g2 q2 e7
        rw [if_pos rfl, qW_some]
        have e0 : cHill B n s p = .inl f := by simp only [cHill, pBd, q]; rw [if_pos ch]; simp only [q2]
        rw [e0]
        exact ⟨rfl, e7⟩
      · intro v e2 g2 q2 e6 cg2 h20
        have ok2 := pNum_ok q2 (show e ≤ n by omega)
        have eH2 : g2.1 14 2 = nn (gH s) := cg2.2.2.1.1.2.2.1.trans w.h.1
        rw [if_neg (by decide), eH2, qck_nn (by omega) (by omega), qbd_e, wI_ne (by omega), eH2, qck_nn (by omega) (by omega), qbd_e, qbd_e, qW_some, nn_cl (by omega), h20, h20, z2, z3, nn_mul, nn_add, wI_ne (by omega), wI_ne (by omega), wI_ne (by omega), e6, eH2, nn_add1]
        have e0 : cHill B n s p = .inr (hlS s (6 * y1 + x1) v, e2) := by simp only [cHill, pBd, q]; rw [if_pos ch]; simp only [q2]
        rw [e0]
        refine ⟨rfl, CS_up (t := hlS s (6 * y1 + x1) v) cg2 (W := [(14, 3), (15, 0), (16, 0)]) (qfr_Ik rfl (by simp) (qfr_I0 rfl (by simp) (qfr_I0 rfl (by simp) qfr_rf))) (fun b j h1 h2 => by unfold inW; simp; omega) ?_⟩
        obtain ⟨⟨a0, a1, a2, a3, a4, a5⟩, b, c, d, e⟩ := cg2.2.2.1
        have q0 : ∀ j, j ≠ 2 → hlS s (6 * y1 + x1) v 0 j = s 0 j := fun j hj => by unfold hlS; rw [upS_ne (by omega), upS_ne (by omega), upS_ne (by omega)]
        refine ⟨⟨?_, ?_, ?_, ?_, ?_, ?_⟩, ?_, fun i hi => ?_, fun i hi => ?_, fun i hi => ?_⟩
        · rw [wI_ne (by omega), wI_ne (by omega), wI_ne (by omega), q0 0 (by omega)]; exact a0
        · rw [wI_ne (by omega), wI_ne (by omega), wI_ne (by omega), q0 1 (by omega)]; exact a1
        · rw [wI_at]; unfold hlS; rw [upS_at]
        · rw [wI_ne (by omega), wI_ne (by omega), wI_ne (by omega), q0 3 (by omega)]; exact a3
        · rw [wI_ne (by omega), wI_ne (by omega), wI_ne (by omega), q0 4 (by omega)]; exact a4
        · rw [wI_ne (by omega), wI_ne (by omega), wI_ne (by omega)]; exact a5
        · exact b
        · rw [gH_hl w] at hi
          show (qw_I (qw_I (qw_I g2 15 (gH s) (nn (6 * y1 + x1))) 16 (gH s) (nn v)) 14 2 (nn (gH s + 1))).1 15 i = _ ∧ (qw_I (qw_I (qw_I g2 15 (gH s) (nn (6 * y1 + x1))) 16 (gH s) (nn v)) 14 2 (nn (gH s + 1))).1 16 i = _
          by_cases ci : i = gH s
          · subst ci
            refine ⟨?_, ?_⟩
            · rw [wI_ne (by omega), wI_ne (by omega), wI_at]
              unfold hlS
              rw [upS_ne (by omega), upS_ne (by omega), upS_at]
            · rw [wI_ne (by omega), wI_at]
              unfold hlS
              rw [upS_ne (by omega), upS_at]
          · refine ⟨?_, ?_⟩
            · rw [wI_ne (by omega), wI_ne (by omega), wI_ne (by omega)]
              unfold hlS
              rw [upS_ne (by omega), upS_ne (by omega), upS_ne (by omega)]
              exact (c i (by omega)).1
            · rw [wI_ne (by omega), wI_ne (by omega), wI_ne (by omega)]
              unfold hlS
              rw [upS_ne (by omega), upS_ne (by omega), upS_ne (by omega)]
              exact (c i (by omega)).2
        · exact d i hi
        · rw [wI_ne (by omega), wI_ne (by omega), wI_ne (by omega)]
          exact e i hi
    · rw [if_neg ch, show (5 : Int32) = nn 5 from rfl, k_failAt cg.2.2.2.1, qbn_s, qpr_t (by decide), qW_some]
      have e0 : cHill B n s p = .inl (ER (sk B n p) 5) := by simp only [cHill, pBd, q]; rw [if_neg ch]
      rw [e0]
      exact ⟨rfl, wI_at⟩
