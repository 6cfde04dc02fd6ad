/-! TWO CLIMBS -/
def kpQ (b j : Nat) : Prop := (b = 0 ∧ j = 5) ∨ (b = 1 ∧ j = 1) ∨ (2 ≤ b ∧ b ≤ 13) ∨ b = 23 ∨ (51 ≤ b ∧ b ≤ 118)
theorem PC.fw {W : List (Nat × Nat)} {s : Sg} {L : Nat → Lw} {nl : Nat} {B : Nat → Nat} {n : Nat} {I : Nat → Option qa_M} {h g : qa_M} (p : PC s L nl B n I h) (a : AL s L nl) (f0 : qfw W h g) (r : RS g) (w : ∀ b j, kpQ b j → inW W b j = false) : PC s L nl B n I g := by
  have n4 := a.n4
  have f := qfw_r f0
  have lk : LKeep 4 h (g.1, g.2.1, g.2.2.1, h.2.2.2) := LKeep_fr f (fun b j h1 h2 => w _ _ (by unfold kpQ; omega)) (by omega)
  have nt := Near_fr p.nt f (fun j => w _ _ (by unfold kpQ; omega))
  have r1 := RelS_fr p.rs f (fun c j h1 h2 => w c j (by unfold kpQ; omega))
  have r2 := TpC_fr p.tp f (w _ _ (by unfold kpQ; omega)) (fun j => w _ _ (by unfold kpQ; omega))
  refine ⟨r1, r2, (f.1 0 5 (w _ _ (by unfold kpQ; omega))).1.trans p.nl, fun k hk => lk k (L k) (by omega) (a.wl k hk) (p.cl k hk), fun k hk => ⟨(f.1 11 k (w _ _ (by unfold kpQ; omega))).2.2.trans (p.rf k hk).1, (f.1 13 k (w _ _ (by unfold kpQ; omega))).2.2.trans (p.rf k hk).2⟩, fun k hk => ?_, nt, r⟩
  have := IC_fr (p.im k hk) f (fun j => w _ _ (by unfold kpQ; omega)) (fun b j h1 h2 => w _ _ (by unfold kpQ; omega))
  cases e : I k with
  | none => rw [e] at this; exact this
  | some h0 => rw [e] at this; exact this
def SmR (h g : qa_M) : Prop := ∀ b j, 119 ≤ b → b ≤ 166 → g.1 b j = h.1 b j ∧ g.2.1 b j = h.2.1 b j ∧ g.2.2.1 b j = h.2.2.1 b j
theorem SmR_rf {h : qa_M} : SmR h h := fun _ _ _ _ => ⟨rfl, rfl, rfl⟩
theorem SmR_tr {h g f : qa_M} (a : SmR h g) (b : SmR g f) : SmR h f := fun x j h1 h2 => ⟨(b x j h1 h2).1.trans (a x j h1 h2).1, (b x j h1 h2).2.1.trans (a x j h1 h2).2.1, (b x j h1 h2).2.2.trans (a x j h1 h2).2.2⟩
theorem SmR_fr {W : List (Nat × Nat)} {h g : qa_M} (f : qfr W h g) (w : ∀ b j, 119 ≤ b → b ≤ 166 → inW W b j = false) : SmR h g := fun b j h1 h2 => f.1 b j (w b j h1 h2)
theorem inW_two {b j : Nat} (h : b ≠ 22 ∧ b ≠ 27 ∧ b ≠ 28 ∧ b ≠ 29 ∧ b ≠ 30 ∧ b ≠ 31 ∧ b ≠ 32 ∧ b ≠ 40 ∧ b ≠ 45 ∧ b ≠ 46 ∧ b ≠ 47 ∧ b ≠ 167) : inW wLW b j = false := by
  unfold wLW wLT inW
  simp
  omega
theorem k_twiceS {s : Sg} {L : Nat → Lw} {nl : Nat} {B : Nat → Nat} {n : Nat} {I : Nat → Option qa_M} {v S : Nat} {h : qa_M} (a : AL s L nl) (i : IvC s L nl B n I v h) (hv : v < 2147483648) (hS : S < 2 ^ gT s) (hS2 : S < 2147483648) : qW (m_X11_lookFromTwo (nn S) h) (fun g => IvC s L nl B n I v g ∧ PK s L S g ∧ SmR h g) := by
  unfold m_X11_lookFromTwo
  rw [qW_bv]
  refine qW_fr (k_ready a i hv) (fun z e => fr_X11_prepare _ e) ?_
  intro g ig f0
  have f0 : qfr w_X11_prepare h g := f0
  rw [ig.2.1.vs, qW_bv]
  refine qW_mono (k_lookTwice a.wf a.w1 ig.1.nt ig.2.2 ig.1.rs hS ig.1.lr (fun e1 e2 => ig.2.1.pk.1 e1 S hS2 e2)) ?_
  rintro g2 ⟨pk, e12, e13, f⟩
  rw [qW_some]
  have fr := qfw_r f
  refine ⟨⟨ig.1.fw a f (.inr pk.1) (fun b j k => by unfold kpQ at k; exact inW_two (by omega)), ⟨?_, ?_, ?_, ?_, ?_⟩⟩, pk, SmR_tr (SmR_fr f0 (fun b j h1 h2 => by unfold w_X11_prepare inW; simp; omega)) (fun b j h1 h2 => f b j (inW_two (by omega)))⟩
  · exact (f 0 13 rfl).1.trans ig.2.1.vs
  · rw [(f 0 14 rfl).1]
    exact VC_im ig.2.1.sp (fun p => by have q := SP_fr p fr rfl (fun b j h1 h2 => inW_two (by omega)); exact q)
  · rw [(f 34 0 rfl).1]
    exact VC_im ig.2.1.ft (fun p => by have q := FT_frm p fr (fun j => rfl); exact q)
  · rw [(f 40 4 rfl).1, (f 40 5 rfl).1, (f 40 6 rfl).1]
    exact VC_im ig.2.1.lk (fun p S m h1 h2 h3 h4 => by have q := LK_frm (p S m h1 h2 h3 h4) fr rfl (fun b j h1 h2 => inW_two (by omega)); exact q)
  · rw [e12, e13]
    refine VC_at hv (fun S2 h1 h2 => ?_)
    rw [nn_eq hS2 h1] at h2
    rw [← h2]
    exact pk
def aThen (s : Sg) (L : Nat → Lw) (x1 x2 x3 x4 : Int32) : Int32 := if knw s x1 then (if wiN x2 (gH s) then (if wiN x3 (2 ^ gS s) then (if wiN x4 2 then nxA x4 (wT s L (cN x1) (cN x2) (cN x3)) (some (thB s L (cN x1) (cN x2) (cN x3))) else -1) else -1) else -1) else -1
theorem pS_16 {s : Sg} (w : WF s) : 2 ^ gS s ≤ 16 := Nat.pow_le_pow_right (n := 2) (by omega) w.s.2
theorem k_aThen {s : Sg} {L : Nat → Lw} {nl : Nat} {B : Nat → Nat} {n : Nat} {I : Nat → Option qa_M} {v : Nat} {h : qa_M} {x1 x2 x3 x4 : Int32} (a : AL s L nl) (i : IvC s L nl B n I v h) (hv : v < 2147483648) : qW (m_X11_then x1 x2 x3 x4 h) (fun r => r.1 = aThen s L x1 x2 x3 x4 ∧ IvC s L nl B n I v r.2 ∧ SmR h r.2) := by
  have e2 : h.1 4 2 = nn (gH s) := i.1.rs.1.1.2.2.1.trans a.wf.h.1
  have e4 : h.1 4 4 = nn (gS s) := i.1.rs.1.1.2.2.2.2.1.trans a.wf.s.1
  have l8 := a.wf.h.2
  have l4 := a.wf.s.2
  have p16 := pS_16 a.wf
  unfold m_X11_then aThen
  rw [k_known a.wf i.1.rs, qbn_s]
  by_cases c : knw s x1 = true
  · obtain ⟨c0, S, hS, hS2, e⟩ := knw_t c
    rw [c, if_neg (by decide), if_pos rfl, e2, k_wi (by omega), qbn_s]
    by_cases c2 : wiN x2 (gH s) = true
    · obtain ⟨u, hu, hu2, eu⟩ := wiN_t c2
      rw [c2, if_neg (by decide), if_pos rfl, e4, nn_sh1 (by omega), k_wi (by omega), qbn_s]
      by_cases c3 : wiN x3 (2 ^ gS s) = true
      · obtain ⟨t, ht, ht2, et⟩ := wiN_t c3
        rw [c3, if_neg (by decide), if_pos rfl, show (2 : Int32) = nn 2 from rfl, k_wi (by omega), qbn_s]
        by_cases c4 : wiN x4 2 = true
        · rw [c4, if_neg (by decide), if_pos rfl, e, eu, et, cN_nn hS2, cN_nn hu2, cN_nn ht2, qW_bv]
          refine qW_mono (k_twiceS a i hv hS hS2) ?_
          rintro g ⟨ig, pk, sm⟩
          rw [qW_bv]
          refine qW_fr (k_chooseSecond a.wf pk hu (show t < 16 by omega)) (fun z e => fr_X0_chooseSecond _ _ _ e) ?_
          intro g2 bt f
          have f : qfr [(40, 15), (40, 16)] g g2 := f
          rw [BT_chosen bt, qbn_s, qW_some]
          exact ⟨rfl, ig.fr a f (fun b j k => by unfold kpP kpV at k; unfold inW; simp; omega), SmR_tr sm (SmR_fr f (fun b j h1 h2 => by unfold inW; simp; omega))⟩
        · rw [Bool.not_eq_true] at c4
          rw [c4, if_pos bi_f, if_neg (by decide), qW_some]; exact ⟨rfl, i, SmR_rf⟩
      · rw [Bool.not_eq_true] at c3
        rw [c3, if_pos bi_f, if_neg (by decide), qW_some]; exact ⟨rfl, i, SmR_rf⟩
    · rw [Bool.not_eq_true] at c2
      rw [c2, if_pos bi_f, if_neg (by decide), qW_some]; exact ⟨rfl, i, SmR_rf⟩
  · rw [Bool.not_eq_true] at c
    rw [c, if_pos bi_f, if_neg (by decide), qW_some]; exact ⟨rfl, i, SmR_rf⟩
theorem r_aThen {h : qa_M} {x1 x2 x3 x4 : Int32} (w : WF (sg h)) (wl : ∀ k, k + 1 = gL (sg h) → WL (lw h k)) : qW (m_X12_then x1 x2 x3 x4 h) (fun r => r.1 = aThen (sg h) (lw h) x1 x2 x3 x4) := by
  have e4 : h.1 120 4 = nn (gS (sg h)) := w.s.1
  have l4 := w.s.2
  have p16 := pS_16 w
  unfold m_X12_then aThen
  rw [r_known w, qbn_s]
  by_cases c : knw (sg h) x1 = true
  · obtain ⟨c0, S, hS, hS2, e⟩ := knw_t c
    rw [c, if_neg (by decide), if_pos rfl, r_isHill w, qbn_s]
    show qW (if bi (wiN x2 (gH (sg h))) = 0 then _ else _) _
    by_cases c2 : wiN x2 (gH (sg h)) = true
    · obtain ⟨u, hu, hu2, eu⟩ := wiN_t c2
      rw [c2, if_neg (by decide), if_pos rfl, qck_ok (i := 4) (by decide), show (4 : Int32).toNatClampNeg = 4 from rfl, e4, nn_sh1 (by omega), r_wi (by omega), qbn_s]
      by_cases c3 : wiN x3 (2 ^ gS (sg h)) = true
      · obtain ⟨t, ht, ht2, et⟩ := wiN_t c3
        rw [c3, if_neg (by decide), if_pos rfl, r_wc (n := 2) (by decide), qbn_s]
        by_cases c4 : wiN x4 2 = true
        · rw [c4, if_neg (by decide), if_pos rfl, e, eu, et, cN_nn hS2, cN_nn hu2, cN_nn ht2, qW_bv]
          refine qW_mono (r_both0 w wl hS) ?_
          rintro g ⟨bo, s1⟩
          obtain ⟨tb1, tb2⟩ := thB_is (s := sg h) (L := lw h) (S := S) (i := u) (a := t) hu
          rw [r_thenOf w s1 bo hu (by omega), tb1, qbn_s, qbd_e]
          show qW (if x4 = 0 then some (nn (thB (sg h) (lw h) S u t), g) else qbn (m_X12_worstThen (nn u) (nn t) (nn (thB (sg h) (lw h) S u t)) g) _) (fun r => r.1 = if x4 = 0 then nn (thB (sg h) (lw h) S u t) else nn (wT (sg h) (lw h) S u t (thB (sg h) (lw h) S u t)))
          by_cases c5 : x4 = 0
          · rw [if_pos c5, if_pos c5, qW_some]
          · rw [if_neg c5, if_neg c5, r_then0 w bo hu (by omega) tb2, qbn_s, qW_some]
        · rw [Bool.not_eq_true] at c4
          rw [c4, if_pos bi_f, if_neg (by decide), qW_some]
      · rw [Bool.not_eq_true] at c3
        rw [c3, if_pos bi_f, if_neg (by decide), qW_some]
    · rw [Bool.not_eq_true] at c2
      rw [c2, if_pos bi_f, if_neg (by decide), qW_some]
  · rw [Bool.not_eq_true] at c
    rw [c, if_pos bi_f, if_neg (by decide), qW_some]
def aPlan (s : Sg) (L : Nat → Lw) (x y : Int32) : Int32 := if knw s x then (if wiN y 2 then nxA y (plO s L (cN x)) (bsl (plO s L (cN x)) (List.range (gH s))) else -1) else -1
theorem k_aPlan {s : Sg} {L : Nat → Lw} {nl : Nat} {B : Nat → Nat} {n : Nat} {I : Nat → Option qa_M} {v : Nat} {h : qa_M} {x y : Int32} (a : AL s L nl) (i : IvC s L nl B n I v h) (hv : v < 2147483648) : qW (m_X11_plan x y h) (fun z => z.1 = aPlan s L x y ∧ IvC s L nl B n I v z.2 ∧ SmR h z.2) := by
  have e2 : h.1 4 2 = nn (gH s) := i.1.rs.1.1.2.2.1.trans a.wf.h.1
  have l8 := a.wf.h.2
  unfold m_X11_plan aPlan
  rw [k_known a.wf i.1.rs, qbn_s]
  by_cases c : knw s x = true
  · obtain ⟨c0, S, hS, hS2, e⟩ := knw_t c
    rw [c, if_neg (by decide), if_pos rfl, show (2 : Int32) = nn 2 from rfl, k_wi (by omega), qbn_s]
    by_cases c2 : wiN y 2 = true
    · rw [c2, if_neg (by decide), if_pos rfl, e2, e, cN_nn hS2]
      by_cases c3 : gH s = 0
      · rw [if_pos (by rw [c3]; rfl), c3, qW_some]; exact ⟨rfl, i, SmR_rf⟩
      · rw [if_neg (fun q => by rw [show (0 : Int32) = nn 0 from rfl, nn_eq (by omega) (by omega)] at q; exact c3 q), qW_bv]
        refine qW_mono (k_twiceS a i hv hS hS2) ?_
        rintro g ⟨ig, pk, sm⟩
        rw [qW_bv]
        refine qW_fr (k_chooseFirst a.wf pk) (fun z e => fr_X0_chooseFirst _ e) ?_
        intro g2 bt f
        have f : qfr [(40, 15), (40, 16)] g g2 := f
        obtain ⟨b, hb⟩ := bsl_some (F := plO s L S) (l := List.range (gH s)) (fun q => by
          have := congrArg List.length q
          rw [List.length_range] at this
          exact c3 this)
        rw [hb] at bt
        rw [BT_chosen bt, qbn_s, qW_some, hb]
        exact ⟨rfl, ig.fr a f (fun b j k => by unfold kpP kpV at k; unfold inW; simp; omega), SmR_tr sm (SmR_fr f (fun b j h1 h2 => by unfold inW; simp; omega))⟩
    · rw [Bool.not_eq_true] at c2
      rw [c2, if_pos bi_f, if_neg (by decide), qW_some]; exact ⟨rfl, i, SmR_rf⟩
  · rw [Bool.not_eq_true] at c
    rw [c, if_pos bi_f, if_neg (by decide), qW_some]; exact ⟨rfl, i, SmR_rf⟩
theorem r_aPlan {h : qa_M} {x y : Int32} (w : WF (sg h)) (wl : ∀ k, k + 1 = gL (sg h) → WL (lw h k)) : qW (m_X12_plan x y h) (fun r => r.1 = aPlan (sg h) (lw h) x y) := by
  unfold m_X12_plan aPlan
  rw [r_known w, qbn_s]
  by_cases c : knw (sg h) x = true
  · obtain ⟨c0, S, hS, hS2, e⟩ := knw_t c
    rw [c, if_neg (by decide), if_pos rfl, r_wc (n := 2) (by decide), qbn_s]
    by_cases c2 : wiN y 2 = true
    · rw [c2, if_neg (by decide), if_pos rfl, e, cN_nn hS2, qW_bv]
      refine qW_mono (r_both0 w wl hS) ?_
      rintro g ⟨bo, s1⟩
      rw [qbd_e, qbd_e]
      show qW (f_X12_plan_b31_loop y (-2) (nn 0) g) _
      rw [r_planLoop w s1 bo, qW_some]
    · rw [Bool.not_eq_true] at c2
      rw [c2, if_pos bi_f, if_neg (by decide), qW_some]
  · rw [Bool.not_eq_true] at c
    rw [c, if_pos bi_f, if_neg (by decide), qW_some]
