/-! WHAT A CLIMB IS WORTH -/
theorem k_lookS {s : Sg} {L : Nat → Lw} {nl : Nat} {B : Nat → Nat} {n : Nat} {I : Nat → Option qa_M} {v S m : Nat} {h : qa_M} (a : AL s L nl) (i : IvC s L nl B n I v h) (hv : v < 2147483648) (hS : S < 2 ^ gT s) (hS2 : S < 2147483648) (hm : m < 2147483648) : qW (m_X11_lookFrom (nn S) (nn m) h) (fun g => IvC s L nl B n I v g ∧ LK s L S m g) := by
  unfold m_X11_lookFrom
  rw [qW_bv]
  refine qW_mono (k_ready a i hv) ?_
  intro g ig
  rw [ig.2.1.vs, qW_bv]
  refine qW_fr (k_look a.wf a.w1 ig.1.nt ig.2.2 ig.1.rs hS hm (fun e1 e2 e3 => ig.2.1.lk.1 e1 S m hS2 hm e2 e3)) (fun z e => fr_X0_look _ _ _ _ e) ?_
  rintro g2 ⟨lk, e4, e5, e6⟩ f
  have f : qfr w_X0_look g g2 := f
  rw [qW_some]
  refine ⟨⟨ig.1.fr a f (LKeep_fr f (fun b j h1 h2 => by unfold w_X0_look inW; simp; omega) (by omega)) (fun b j k => by unfold kpP at k; unfold w_X0_look inW; simp; omega), ⟨?_, ?_, ?_, ?_, ?_⟩⟩, lk⟩
  · exact (f.1 0 13 rfl).1.trans ig.2.1.vs
  · rw [(f.1 0 14 rfl).1]
    exact VC_im ig.2.1.sp (fun p => SP_fr p f rfl (fun b j h1 h2 => by unfold w_X0_look inW; simp; omega))
  · rw [(f.1 34 0 rfl).1]
    exact VC_im ig.2.1.ft (fun p => FT_frm p f (fun j => rfl))
  · rw [e4, e5, e6]
    refine VC_at hv (fun S2 m2 h1 h2 h3 h4 => ?_)
    rw [nn_eq hS2 h1] at h3
    rw [nn_eq hm h2] at h4
    rw [← h3, ← h4]
    exact lk
  · rw [(f.1 40 12 rfl).1, (f.1 40 13 rfl).1]
    exact VC_im ig.2.1.pk (fun p S h1 h2 => PK_frm (p S h1 h2) f rfl rfl (fun j => rfl))
def aWorst (s : Sg) (L : Nat → Lw) (x y : Int32) : Int32 := if knw s x then (if wiN y (gH s) then nn (wst s L (cN x) 0 (cN y)) else -1) else -1
theorem k_aWorst {s : Sg} {L : Nat → Lw} {nl : Nat} {B : Nat → Nat} {n : Nat} {I : Nat → Option qa_M} {v : Nat} {h : qa_M} {x y : Int32} (a : AL s L nl) (i : IvC s L nl B n I v h) (hv : v < 2147483648) : qW (m_X11_worst x y h) (fun z => z.1 = aWorst s L x y ∧ IvC s L nl B n I v z.2) := by
  have e2 : h.1 4 2 = nn (gH s) := i.1.rs.1.1.2.2.1.trans a.wf.h.1
  have l8 := a.wf.h.2
  unfold m_X11_worst aWorst
  rw [k_known a.wf i.1.rs, qbn_s]
  by_cases c : knw s x = true
  · obtain ⟨c0, S, hS, hS2, e⟩ := knw_t c
    rw [c, if_neg (by decide), if_pos rfl, e2, k_wi (by omega), qbn_s]
    by_cases c2 : wiN y (gH s) = true
    · obtain ⟨u, hu, hu2, eu⟩ := wiN_t c2
      rw [c2, if_neg (by decide), if_pos rfl, e, eu, cN_nn hS2, cN_nn hu2, qW_bv]
      refine qW_mono (k_lookS (m := 0) a i hv hS hS2 (by omega)) ?_
      rintro g ⟨ig, lk⟩
      have hl : (vws s 0).length = gH s := by rw [vws_nms, List.length_map]; unfold nms; rw [if_pos rfl, List.length_range]
      have hv2 : ((vws s 0).getD u (0, 0)).2 = vw s 0 u := by
        rw [vws_nms, List.getD_eq_getElem?_getD, List.getElem?_map]
        unfold nms
        rw [if_pos rfl, List.getElem?_range hu]
        rfl
      rw [k_greatest (i := u) (f := tlV s (vw s 0 u) (fitL s L S)) (by omega) (fun c => Nat.le_trans tlV_le (fit_len a.wf)) (fun c hc => by rw [lk.2 u c (by omega) hc, hv2]), qbn_s, qW_some]
      exact ⟨rfl, ig⟩
    · rw [Bool.not_eq_true] at c2
      rw [c2, if_pos bi_f, if_neg (by decide), qW_some]; exact ⟨rfl, i⟩
  · rw [Bool.not_eq_true] at c
    rw [c, if_pos bi_f, if_neg (by decide), qW_some]; exact ⟨rfl, i⟩
theorem r_both0 {h : qa_M} (w : WF (sg h)) (wl : ∀ k, k + 1 = gL (sg h) → WL (lw h k)) {S : Nat} (hS : S < 2 ^ gT (sg h)) : qW (m_X12_fillsBoth (nn S) h) (fun g => BO (sg h) (lw h) S g ∧ sg g = sg h) := by
  refine qW_fr (r_fillsBoth w wl hS) (fun g e => fr_X12_fillsBoth _ _ e) ?_
  intro g hz f
  have f : qfr w_X12_fillsBoth h g := f
  exact ⟨hz, sg_fr f (fun b j h1 h2 => by unfold w_X12_fillsBoth inW; simp; omega)⟩
theorem r_aWorst {h : qa_M} {x y : Int32} (w : WF (sg h)) (wl : ∀ k, k + 1 = gL (sg h) → WL (lw h k)) : qW (m_X12_worst x y h) (fun r => r.1 = aWorst (sg h) (lw h) x y) := by
  unfold m_X12_worst aWorst
  rw [r_known w, qbn_s]
  by_cases c : knw (sg h) x = true
  · obtain ⟨c0, S, hS, hS2, e⟩ := knw_t c
    rw [c, if_neg (by decide), if_pos rfl, r_isHill w, qbn_s]
    show qW (if bi (wiN y (gH (sg h))) = 0 then _ else _) _
    by_cases c2 : wiN y (gH (sg h)) = true
    · obtain ⟨u, hu, hu2, eu⟩ := wiN_t c2
      rw [c2, if_neg (by decide), if_pos rfl, e, eu, cN_nn hS2, cN_nn hu2, qW_bv]
      refine qW_mono (r_both0 w wl hS) ?_
      rintro g ⟨bo, s1⟩
      rw [r_worst0 w bo hu, qbn_s, qW_some]
    · rw [Bool.not_eq_true] at c2
      rw [c2, if_pos bi_f, if_neg (by decide), qW_some]
  · rw [Bool.not_eq_true] at c
    rw [c, if_pos bi_f, if_neg (by decide), qW_some]
/-! NEXT, FRESH -/
theorem BT_chosen {F : Nat → Nat} {b : Nat} {x : Int32} {h : qa_M} (bt : BT F (some b) h) : m_X0_chosen x h = some (nxA x F (some b), h) := by
  obtain ⟨e1, e2⟩ := bt.2 b rfl
  unfold m_X0_chosen nxA
  by_cases c : x = 0
  · rw [if_pos c, e1]
    show _ = some ((if x = 0 then nn b else nn (F b)), h)
    rw [if_pos c]
  · rw [if_neg c, e2]
    show _ = some ((if x = 0 then nn b else nn (F b)), h)
    rw [if_neg c]
theorem k_viewS {s : Sg} {L : Nat → Lw} {nl : Nat} {B : Nat → Nat} {n : Nat} {I : Nat → Option qa_M} {v S m : Nat} {x : Int32} {h : qa_M} (a : AL s L nl) (i : IvC s L nl B n I v h) (hv : v < 2147483648) (hS : S < 2 ^ gT s) (hS2 : S < 2147483648) (hm : m < 2147483648) (hne : nms s m ≠ []) : qW (qbv (m_X11_lookFrom (nn S) (nn m) h) (fun h37 : qa_M => qbv (m_X0_chooseView h37) (fun h44 : qa_M => qbn (m_X0_chosen x h44) (fun (c52 : Int32) (h52 : qa_M) => some (c52, h52))))) (fun z => z.1 = nxA x (wst s L S m) (bsl (wst s L S m) (nms s m)) ∧ IvC s L nl B n I v z.2) := by
  rw [qW_bv]
  refine qW_mono (k_lookS a i hv hS hS2 hm) ?_
  rintro g ⟨ig, lk⟩
  rw [qW_bv]
  refine qW_fr (k_chooseView a.wf lk) (fun z e => fr_X0_chooseView _ e) ?_
  intro g2 bt f
  have f : qfr [(40, 15), (40, 16)] g g2 := f
  obtain ⟨b, hb⟩ := bsl_some (F := wst s L S m) hne
  rw [hb] at bt
  rw [BT_chosen bt, qbn_s, qW_some, hb]
  exact ⟨rfl, ig.fr a f (fun b j k => by unfold kpP kpV at k; unfold inW; simp; omega)⟩
def aNext (s : Sg) (L : Nat → Lw) (x y : Int32) : Int32 := if knw s x then (if wiN y 2 then nxA y (wst s L (cN x) 0) (bsl (wst s L (cN x) 0) (List.range (gH s))) else -1) else -1
theorem k_aNext {s : Sg} {L : Nat → Lw} {nl : Nat} {B : Nat → Nat} {n : Nat} {I : Nat → Option qa_M} {v : Nat} {h : qa_M} {x y : Int32} (a : AL s L nl) (i : IvC s L nl B n I v h) (hv : v < 2147483648) : qW (m_X11_next x y h) (fun z => z.1 = aNext s L x y ∧ IvC s L nl B n I v z.2) := by
  have e2 : h.1 4 2 = nn (gH s) := i.1.rs.1.1.2.2.1.trans a.wf.h.1
  have l8 := a.wf.h.2
  unfold m_X11_next aNext
  rw [k_known a.wf i.1.rs, qbn_s]
  by_cases c : knw s x = true
  · obtain ⟨c0, S, hS, hS2, e⟩ := knw_t c
    rw [c, if_neg (by decide), if_pos rfl, show (2 : Int32) = nn 2 from rfl, k_wi (by omega), qbn_s]
    by_cases c2 : wiN y 2 = true
    · rw [c2, if_neg (by decide), if_pos rfl, e2, e, cN_nn hS2]
      by_cases c3 : gH s = 0
      · rw [if_pos (by rw [c3]; rfl), c3, qW_some]; exact ⟨rfl, i⟩
      · rw [if_neg (fun q => by rw [show (0 : Int32) = nn 0 from rfl, nn_eq (by omega) (by omega)] at q; exact c3 q)]
        have en : nms s 0 = List.range (gH s) := by unfold nms; rw [if_pos rfl]
        rw [← en]
        refine k_viewS (m := 0) a i hv hS hS2 (by omega) ?_
        rw [en]
        intro q
        have := congrArg List.length q
        rw [List.length_range] at this
        exact c3 this
    · rw [Bool.not_eq_true] at c2
      rw [c2, if_pos bi_f, if_neg (by decide), qW_some]; exact ⟨rfl, i⟩
  · rw [Bool.not_eq_true] at c
    rw [c, if_pos bi_f, if_neg (by decide), qW_some]; exact ⟨rfl, i⟩
theorem r_aNext {h : qa_M} {x y : Int32} (w : WF (sg h)) (wl : ∀ k, k + 1 = gL (sg h) → WL (lw h k)) : qW (m_X12_next x y h) (fun r => r.1 = aNext (sg h) (lw h) x y) := by
  unfold m_X12_next aNext
  rw [r_known w, qbn_s]
  by_cases c : knw (sg h) x = true
  · obtain ⟨c0, S, hS, hS2, e⟩ := knw_t c
    rw [c, if_neg (by decide), if_pos rfl, r_wc (n := 2) (by decide), qbn_s]
    by_cases c2 : wiN y 2 = true
    · rw [c2, if_neg (by decide), if_pos rfl, e, cN_nn hS2, qW_bv]
      refine qW_mono (r_both0 w wl hS) ?_
      rintro g ⟨bo, s1⟩
      rw [qbd_e, qbd_e]
      show qW (f_X12_next_b31_loop y (-2) (nn 0) g) _
      rw [r_nextLoop w s1 bo, qW_some]
    · rw [Bool.not_eq_true] at c2
      rw [c2, if_pos bi_f, if_neg (by decide), qW_some]
  · rw [Bool.not_eq_true] at c
    rw [c, if_pos bi_f, if_neg (by decide), qW_some]
def aFresh (s : Sg) (L : Nat → Lw) (x y z : Int32) : Int32 := if knw s x then (if 1 ≤ y.toInt ∧ y.toInt ≤ 9 then (if wiN z 2 then nxA z (wst s L (cN x) (cN y)) (bsl (wst s L (cN x) (cN y)) (nms s (cN y))) else -1) else -1) else -1
theorem opn_0 {s : Sg} : (mkm (thr s) 36 &&& (mkm (isW s) 36 ^^^ (-1 : Int64)) = 0) ↔ ∀ k, k < 36 → opn s k = false := by
  have t : ∀ k, tb (mkm (thr s) 36 &&& (mkm (isW s) 36 ^^^ (-1 : Int64))) k = (decide (k < 36) && opn s k) := by
    intro k
    rw [tb_and, tb_xor, tb_mkm (by omega), tb_mkm (by omega)]
    unfold opn
    by_cases c : k < 36
    · rw [decide_eq_true c, tb_m1, decide_eq_true (by omega)]
      cases thr s k <;> cases isW s k <;> rfl
    · rw [decide_eq_false c]; rfl
  constructor
  · intro e k hk
    have := t k
    rw [e, tb_zero, decide_eq_true hk, Bool.true_and] at this
    exact this.symm
  · intro e
    apply tb_ext
    intro k hk
    rw [t k, tb_zero]
    by_cases c : k < 36
    · rw [e k c, Bool.and_false]
    · rw [decide_eq_false c]; rfl
theorem nms_ne {s : Sg} {m : Nat} (hm : m ≠ 0) : (nms s m = []) ↔ ∀ k, k < 36 → opn s k = false := by
  unfold nms
  rw [if_neg hm, List.filter_eq_nil_iff]
  constructor
  · intro e k hk
    have := e k (List.mem_range.mpr hk)
    rw [Bool.not_eq_true] at this
    exact this
  · intro e k hk
    rw [e k (List.mem_range.mp hk)]
    decide
theorem k_aFresh {s : Sg} {L : Nat → Lw} {nl : Nat} {B : Nat → Nat} {n : Nat} {I : Nat → Option qa_M} {v : Nat} {h : qa_M} {x y z : Int32} (a : AL s L nl) (i : IvC s L nl B n I v h) (hv : v < 2147483648) : qW (m_X11_fresh x y z h) (fun r => r.1 = aFresh s L x y z ∧ IvC s L nl B n I v r.2) := by
  unfold m_X11_fresh aFresh
  rw [k_known a.wf i.1.rs, qbn_s]
  by_cases c : knw s x = true
  · obtain ⟨c0, S, hS, hS2, e⟩ := knw_t c
    rw [c, if_neg (by decide), if_pos rfl]
    by_cases cy : 1 ≤ y.toInt ∧ y.toInt ≤ 9
    · obtain ⟨m, hm, ey⟩ := nn_of (x := y) (by omega)
      have hm2 := cy
      rw [ey, nn_toInt hm] at hm2
      rw [if_neg (by rw [Int32.lt_iff_toInt_lt, show (1 : Int32).toInt = 1 from rfl]; omega), if_neg (by rw [Int32.lt_iff_toInt_lt, show (9 : Int32).toInt = 9 from rfl]; omega), if_pos cy, show (2 : Int32) = nn 2 from rfl, k_wi (by omega), qbn_s]
      by_cases c2 : wiN z 2 = true
      · rw [c2, if_neg (by decide), if_pos rfl]
        unfold m_X3_open
        rw [qbn_s, i.1.rs.1.2.1.1, i.1.rs.1.2.1.2, e, ey, cN_nn hS2, cN_nn hm]
        by_cases c3 : ∀ k, k < 36 → opn s k = false
        · rw [if_pos (opn_0.mpr c3), (nms_ne (show m ≠ 0 by omega)).mpr c3, qW_some]; exact ⟨rfl, i⟩
        · rw [if_neg (fun q => c3 (opn_0.mp q))]
          exact k_viewS (m := m) a i hv hS hS2 hm (fun q => c3 ((nms_ne (by omega)).mp q))
      · rw [Bool.not_eq_true] at c2
        rw [c2, if_pos bi_f, if_neg (by decide), qW_some]; exact ⟨rfl, i⟩
    · rw [if_neg cy]
      by_cases c1 : y < 1
      · rw [if_pos c1, qW_some]; exact ⟨rfl, i⟩
      · rw [if_neg c1]
        rw [Int32.lt_iff_toInt_lt, show (1 : Int32).toInt = 1 from rfl] at c1
        rw [if_pos (by rw [Int32.lt_iff_toInt_lt, show (9 : Int32).toInt = 9 from rfl]; omega), qW_some]; exact ⟨rfl, i⟩
  · rw [Bool.not_eq_true] at c
    rw [c, if_pos bi_f, if_neg (by decide), qW_some]; exact ⟨rfl, i⟩
theorem r_aFresh {h : qa_M} {x y z : Int32} (w : WF (sg h)) (wl : ∀ k, k + 1 = gL (sg h) → WL (lw h k)) : qW (m_X12_fresh x y z h) (fun r => r.1 = aFresh (sg h) (lw h) x y z) := by
  unfold m_X12_fresh aFresh
  rw [r_known w, qbn_s]
  by_cases c : knw (sg h) x = true
  · obtain ⟨c0, S, hS, hS2, e⟩ := knw_t c
    rw [c, if_neg (by decide), if_pos rfl, r_in, i64_i, show (1 : Int64).toInt = 1 from rfl, show (9 : Int64).toInt = 9 from rfl, qbn_s]
    by_cases cy : 1 ≤ y.toInt ∧ y.toInt ≤ 9
    · obtain ⟨m, hm, ey⟩ := nn_of (x := y) (by omega)
      have hm2 := cy
      rw [ey, nn_toInt hm] at hm2
      rw [decide_eq_true cy, if_neg (by decide), if_pos cy, r_wc (n := 2) (by decide), qbn_s]
      by_cases c2 : wiN z 2 = true
      · rw [c2, if_neg (by decide), if_pos rfl, qbd_e, e, ey, cN_nn hS2, cN_nn hm]
        exact r_freshMain w wl hS (by omega) hm
      · rw [Bool.not_eq_true] at c2
        rw [c2, if_pos bi_f, if_neg (by decide), qW_some]
    · rw [decide_eq_false cy, if_pos bi_f, if_neg cy, qW_some]
  · rw [Bool.not_eq_true] at c
    rw [c, if_pos bi_f, if_neg (by decide), qW_some]
