/-! ROWS -/
def aRows (s : Sg) (L : Nat → Lw) (x1 x2 x3 x4 : Int32) : Int32 := if knw s x1 then (if wiN x2 (gS s) then (if wiN x3 (gR s) then (if wiN x4 5 then nn ((fitL s L (cN x1)).countP (fun l => decide (cP (rowP s (cN x2) (cN x3)) l = cN x4))) else -1) else -1) else -1) else -1
theorem nn_p1 {n : Nat} (h : 0 < n) : nn n - 1 = nn (n - 1) := by
  rw [show nn n = nn (n - 1) + 1 by rw [nn_add1]; congr 1; omega, Int32.add_sub_cancel]
theorem k_aRows {s : Sg} {L : Nat → Lw} {nl : Nat} {B : Nat → Nat} {n : Nat} {I : Nat → Option qa_M} {v : Nat} {h : qa_M} {x1 x2 x3 x4 : Int32} (a : AL s L nl) (i : IvC s L nl B n I v h) (hv : v < 2147483648) : qW (m_X11_rows x1 x2 x3 x4 h) (fun r => r.1 = aRows s L x1 x2 x3 x4 ∧ IvC s L nl B n I v r.2) := by
  have e4 : h.1 4 4 = nn (gS s) := i.1.rs.1.1.2.2.2.2.1.trans a.wf.s.1
  have e1 : h.1 4 1 = nn (gR s) := i.1.rs.1.1.2.1.trans a.wf.r.1
  have l4 := a.wf.s.2
  have l6 := a.wf.r.2
  have l0 := a.wf.c.2
  unfold m_X11_rows aRows
  rw [k_known a.wf i.1.rs, qbn_s]
  by_cases c : knw s x1 = true
  · obtain ⟨c0, S, hS, hS2, e⟩ := knw_t c
    rw [c, if_neg (by decide), if_pos rfl, e4, k_wi (by omega), qbn_s]
    by_cases c2 : wiN x2 (gS s) = true
    · obtain ⟨o, ho, -, eo⟩ := wiN_t c2
      rw [c2, if_neg (by decide), if_pos rfl, e1, k_wi (by omega), qbn_s]
      by_cases c3 : wiN x3 (gR s) = true
      · obtain ⟨y, hy, -, ey⟩ := wiN_t c3
        rw [c3, if_neg (by decide), if_pos rfl, show (5 : Int32) = nn 5 from rfl, k_wi (by omega), qbn_s]
        by_cases c4 : wiN x4 5 = true
        · obtain ⟨d, hd, -, ed⟩ := wiN_t c4
          rw [c4, if_neg (by decide), if_pos rfl, e, eo, ey, ed, cN_nn hS2, cN_nn (by omega), cN_nn (by omega), cN_nn (by omega), qW_bv]
          refine qW_mono (k_ready a i hv) ?_
          intro g ig
          have eg : g.1 4 0 = nn (gC s) := ig.1.rs.1.1.1.trans a.wf.c.1
          rw [eg, nn_p1 c0, show (0 : Int32) = nn 0 from rfl, k_box (by omega) (by omega) (by omega) (by omega), qbn_s, qW_bv]
          refine qW_fr (k_tally a.wf a.w1 ig.1.nt ig.2.2 ig.1.rs hS (show o < 4 by omega) (fun k hk => by rw [tb_mkm (by omega), decide_eq_false (by omega)]; rfl)) (fun z e => fr_X7_tally _ _ _ _ e) ?_
          intro g2 hz f
          have f : qfr w_X7_tally g g2 := f
          rw [qck_nn hd (by omega), nn_cl (by omega), qW_some]
          refine ⟨?_, (ig.fr a f (fun b j k => by unfold kpP kpV at k; unfold w_X7_tally inW; simp; omega)).c⟩
          show g2.1 33 d = _
          rw [hz d hd]
          unfold tlC
          congr 1
          apply List.countP_congr
          intro l hl
          rw [cP_ext (P := tlP s o (mkm (inB 0 y (gC s - 1) y) 36)) (Q := rowP s o y) (fun t x hx ht => ?_) (fit_mem hl).2]
          unfold tlP rowP
          congr 1
          rw [tb_mkm (by omega), decide_eq_true hx, Bool.true_and]
          unfold inB
          unfold thr at ht
          rw [Bool.and_eq_true, decide_eq_true_eq, decide_eq_true_eq] at ht
          rw [decide_eq_true (by omega), Bool.true_and, decide_eq_decide]
          omega
        · rw [Bool.not_eq_true] at c4
          rw [c4, if_pos bi_f, if_neg (by decide), qW_some]; exact ⟨rfl, i⟩
      · rw [Bool.not_eq_true] at c3
        rw [c3, if_pos bi_f, if_neg (by decide), qW_some]; exact ⟨rfl, i⟩
    · rw [Bool.not_eq_true] at c2
      rw [c2, if_pos bi_f, if_neg (by decide), qW_some]; exact ⟨rfl, i⟩
  · rw [Bool.not_eq_true] at c
    rw [c, if_pos bi_f, if_neg (by decide), qW_some]; exact ⟨rfl, i⟩
theorem r_aRows {h : qa_M} {x1 x2 x3 x4 : Int32} (w : WF (sg h)) (wl : ∀ k, k + 1 = gL (sg h) → WL (lw h k)) : qW (m_X12_rows x1 x2 x3 x4 h) (fun r => r.1 = aRows (sg h) (lw h) x1 x2 x3 x4) := by
  have l4 := w.s.2
  have l6 := w.r.2
  have e1 : h.1 120 1 = nn (gR (sg h)) := w.r.1
  unfold m_X12_rows aRows
  rw [r_known w, qbn_s]
  by_cases c : knw (sg h) x1 = true
  · obtain ⟨c0, S, hS, hS2, e⟩ := knw_t c
    rw [c, if_neg (by decide), if_pos rfl, r_isSort w, qbn_s]
    show qW (if bi (wiN x2 (gS (sg h))) = 0 then _ else _) _
    by_cases c2 : wiN x2 (gS (sg h)) = true
    · obtain ⟨o, ho, -, eo⟩ := wiN_t c2
      rw [c2, if_neg (by decide), if_pos rfl, qck_ok (i := 1) (by decide), show (1 : Int32).toNatClampNeg = 1 from rfl, e1, r_wi (by omega), qbn_s]
      by_cases c3 : wiN x3 (gR (sg h)) = true
      · obtain ⟨y, hy, -, ey⟩ := wiN_t c3
        rw [c3, if_neg (by decide), if_pos rfl, r_wc (n := 5) (by decide), qbn_s]
        by_cases c4 : wiN x4 5 = true
        · obtain ⟨d, hd, -, ed⟩ := wiN_t c4
          rw [c4, if_neg (by decide), if_pos rfl, e, eo, ey, ed, cN_nn hS2, cN_nn (by omega), cN_nn (by omega), cN_nn (by omega), qW_bv]
          refine qW_mono (r_beginsG w wl S) ?_
          rintro g ⟨gs, ls, s1, s2⟩
          rw [qbd_e]
          exact r_rowsLoop w wl s1 hS gs (by omega) (by omega) hd
        · rw [Bool.not_eq_true] at c4
          rw [c4, if_pos bi_f, if_neg (by decide), qW_some]
      · rw [Bool.not_eq_true] at c3
        rw [c3, if_pos bi_f, if_neg (by decide), qW_some]
    · rw [Bool.not_eq_true] at c2
      rw [c2, if_pos bi_f, if_neg (by decide), qW_some]
  · rw [Bool.not_eq_true] at c
    rw [c, if_pos bi_f, if_neg (by decide), qW_some]
/-! SETS OF NOTES -/
theorem andn_sle {T S : Nat} (h : andn T S = 0) : T ≤ S := by
  have e : T &&& S = T := by
    apply Nat.eq_of_testBit_eq
    intro j
    rw [Nat.testBit_and]
    have := andn_0.mp h j
    cases q : T.testBit j with
    | false => rfl
    | true => rw [this q]; rfl
  rw [← e]
  exact Nat.and_le_right
theorem r_fills {h : qa_M} (w : WF (sg h)) (wl : ∀ k, k + 1 = gL (sg h) → WL (lw h k)) {S : Nat} (hS : S < 2 ^ gT (sg h)) : qW (m_X12_fillsFitting (nn S) h) (fun g => (∀ T, andn T S = 0 → g.1 157 T = nn (fitL (sg h) (lw h) T).length) ∧ sg g = sg h) := by
  have p := gT_pw w
  refine qW_fr (r_fillsFitting w wl (by omega)) (fun g e => fr_X12_fillsFitting _ _ e) ?_
  intro g hz f
  have f : qfr w_X12_fillsFitting h g := f
  refine ⟨fun T hT => ?_, sg_fr f (fun b j h1 h2 => by unfold w_X12_fillsFitting inW; simp; omega)⟩
  have := andn_sle hT
  rw [hz T (by omega), zt_fit w (by omega) (andn_0.mp hT)]
theorem k_allSets {s : Sg} {L : Nat → Lw} {nl : Nat} {B : Nat → Nat} {n : Nat} {I : Nat → Option qa_M} {v : Nat} {h : qa_M} (a : AL s L nl) (i : IvC s L nl B n I v h) (hv : v < 2147483648) : qW (m_X11_countAllSets h) (fun g => IvC s L nl B n I v g ∧ FT s L g) := by
  unfold m_X11_countAllSets
  rw [qW_bv]
  refine qW_mono (k_ready a i hv) ?_
  intro g ig
  rw [ig.2.1.vs, qW_bv]
  refine qW_fr (k_fillF a.wf a.w1 ig.1.nt ig.2.2 ig.1.rs (fun e => ig.2.1.ft.1 e)) (fun z e => fr_X1_fill _ _ e) ?_
  rintro g2 ⟨ft, e34⟩ f
  have f : qfr w_X1_fill g g2 := f
  rw [qW_some]
  refine ⟨⟨ig.1.fr a f (LKeep_fr f (fun b j h1 h2 => by unfold w_X1_fill inW; simp; omega) (by omega)) (fun b j k => by unfold kpP at k; unfold w_X1_fill inW; simp; omega), ⟨?_, ?_, ?_, ?_, ?_⟩⟩, ft⟩
  · exact (f.1 0 13 rfl).1.trans ig.2.1.vs
  · rw [(f.1 0 14 rfl).1]
    exact VC_im ig.2.1.sp (fun p => SP_fr p f rfl (fun b j h1 h2 => by unfold w_X1_fill inW; simp; omega))
  · rw [e34]; exact VC_at hv ft
  · rw [(f.1 40 4 rfl).1, (f.1 40 5 rfl).1, (f.1 40 6 rfl).1]
    exact VC_im ig.2.1.lk (fun p S m h1 h2 h3 h4 => LK_frm (p S m h1 h2 h3 h4) f rfl (fun b j h1 h2 => by unfold w_X1_fill inW; simp; omega))
  · rw [(f.1 40 12 rfl).1, (f.1 40 13 rfl).1]
    exact VC_im ig.2.1.pk (fun p S h1 h2 => PK_frm (p S h1 h2) f rfl rfl (fun j => rfl))
def aLeast (s : Sg) (L : Nat → Lw) (x : Int32) : Int32 := if knw s x then nn (lst (gdL s L (cN x)) (cN x) (cN x)) else -1
def aCare (s : Sg) (L : Nat → Lw) (x : Int32) : Int32 := if knw s x then oI (bst (gdC s L (cN x)) 1024) else -1
def aTrust (s : Sg) (L : Nat → Lw) (x : Int32) : Int32 := if knw s x then oI (bst (gdT s L (cN x)) 64) else -1
theorem k_aLeast {s : Sg} {L : Nat → Lw} {nl : Nat} {B : Nat → Nat} {n : Nat} {I : Nat → Option qa_M} {v : Nat} {h : qa_M} {x : Int32} (a : AL s L nl) (i : IvC s L nl B n I v h) (hv : v < 2147483648) : qW (m_X11_least x h) (fun z => z.1 = aLeast s L x ∧ IvC s L nl B n I v z.2) := by
  unfold m_X11_least aLeast
  rw [k_known a.wf i.1.rs, qbn_s]
  by_cases c : knw s x = true
  · obtain ⟨c0, S, hS, hS2, e⟩ := knw_t c
    rw [c, if_neg (by decide), if_pos rfl, e, cN_nn hS2, qW_bv]
    refine qW_mono (k_allSets a i hv) ?_
    rintro g ⟨ig, ft⟩
    rw [k_least a.wf ft hS, qbn_s, qW_some]
    exact ⟨rfl, ig⟩
  · rw [Bool.not_eq_true] at c
    rw [c, if_pos bi_f, if_neg (by decide), qW_some]; exact ⟨rfl, i⟩
theorem k_aCare {s : Sg} {L : Nat → Lw} {nl : Nat} {B : Nat → Nat} {n : Nat} {I : Nat → Option qa_M} {v : Nat} {h : qa_M} {x : Int32} (a : AL s L nl) (i : IvC s L nl B n I v h) (hv : v < 2147483648) : qW (m_X11_careless x h) (fun z => z.1 = aCare s L x ∧ IvC s L nl B n I v z.2) := by
  unfold m_X11_careless aCare
  rw [k_known a.wf i.1.rs, qbn_s]
  by_cases c : knw s x = true
  · obtain ⟨c0, S, hS, hS2, e⟩ := knw_t c
    rw [c, if_neg (by decide), if_pos rfl, e, cN_nn hS2, qW_bv]
    refine qW_mono (k_allSets a i hv) ?_
    rintro g ⟨ig, ft⟩
    obtain ⟨r, hr⟩ : ∃ r, r = oI (bst (gdC s L S) 1024) := ⟨_, rfl⟩
    rw [k_leaveOut a.wf ft hS, ← hr, qbn_s, qW_some]
    exact ⟨rfl, ig⟩
  · rw [Bool.not_eq_true] at c
    rw [c, if_pos bi_f, if_neg (by decide), qW_some]; exact ⟨rfl, i⟩
theorem k_aTrust {s : Sg} {L : Nat → Lw} {nl : Nat} {B : Nat → Nat} {n : Nat} {I : Nat → Option qa_M} {v : Nat} {h : qa_M} {x : Int32} (a : AL s L nl) (i : IvC s L nl B n I v h) (hv : v < 2147483648) : qW (m_X11_trust x h) (fun z => z.1 = aTrust s L x ∧ IvC s L nl B n I v z.2) := by
  unfold m_X11_trust aTrust
  rw [k_known a.wf i.1.rs, qbn_s]
  by_cases c : knw s x = true
  · obtain ⟨c0, S, hS, hS2, e⟩ := knw_t c
    rw [c, if_neg (by decide), if_pos rfl, e, cN_nn hS2, qW_bv]
    refine qW_mono (k_allSets a i hv) ?_
    rintro g ⟨ig, ft⟩
    rw [k_distrust a.wf ig.1.rs ft hS rfl, qbn_s, qW_some]
    exact ⟨rfl, ig⟩
  · rw [Bool.not_eq_true] at c
    rw [c, if_pos bi_f, if_neg (by decide), qW_some]; exact ⟨rfl, i⟩
theorem r_aLeast {h : qa_M} {x : Int32} (w : WF (sg h)) (wl : ∀ k, k + 1 = gL (sg h) → WL (lw h k)) : qW (m_X12_least x h) (fun r => r.1 = aLeast (sg h) (lw h) x) := by
  have p := gT_pw w
  unfold m_X12_least aLeast
  rw [r_known w, qbn_s]
  by_cases c : knw (sg h) x = true
  · obtain ⟨c0, S, hS, hS2, e⟩ := knw_t c
    rw [c, if_neg (by decide), if_pos rfl, e, cN_nn hS2, qW_bv]
    refine qW_mono (r_fills w wl hS) ?_
    rintro g ⟨hf, s1⟩
    rw [qbd_e, qbd_e]
    show qW (f_X12_least_b19_loop (nn S) (nn S) (nn 0) g) _
    rw [r_least w hf (by omega) rfl, qW_some]
  · rw [Bool.not_eq_true] at c
    rw [c, if_pos bi_f, if_neg (by decide), qW_some]
theorem r_aCare {h : qa_M} {x : Int32} (w : WF (sg h)) (wl : ∀ k, k + 1 = gL (sg h) → WL (lw h k)) : qW (m_X12_careless x h) (fun r => r.1 = aCare (sg h) (lw h) x) := by
  have p := gT_pw w
  unfold m_X12_careless aCare
  rw [r_known w, qbn_s]
  by_cases c : knw (sg h) x = true
  · obtain ⟨c0, S, hS, hS2, e⟩ := knw_t c
    rw [c, if_neg (by decide), if_pos rfl, e, cN_nn hS2, qW_bv]
    refine qW_mono (r_fills w wl hS) ?_
    rintro g ⟨hf, s1⟩
    rw [qbd_e, qbd_e]
    show qW (f_X12_careless_b20_loop (nn S) (-2) (nn 0) g) _
    rw [r_leaveOut w hf (by omega) rfl, qW_some]
  · rw [Bool.not_eq_true] at c
    rw [c, if_pos bi_f, if_neg (by decide), qW_some]
theorem r_aTrust {h : qa_M} {x : Int32} (w : WF (sg h)) (wl : ∀ k, k + 1 = gL (sg h) → WL (lw h k)) : qW (m_X12_trust x h) (fun r => r.1 = aTrust (sg h) (lw h) x) := by
  have p := gT_pw w
  unfold m_X12_trust aTrust
  rw [r_known w, qbn_s]
  by_cases c : knw (sg h) x = true
  · obtain ⟨c0, S, hS, hS2, e⟩ := knw_t c
    rw [c, if_neg (by decide), if_pos rfl, e, cN_nn hS2, qW_bv]
    refine qW_mono (r_fills w wl hS) ?_
    rintro g ⟨hf, s1⟩
    rw [qbd_e, qbd_e]
    show qW (f_X12_trust_b20_loop (nn S) (-2) (nn 0) g) _
    rw [r_distrust (L := lw h) (by rw [s1]; exact w) (by rw [s1]; exact hf) (by omega) rfl, qW_some, s1]
  · rw [Bool.not_eq_true] at c
    rw [c, if_pos bi_f, if_neg (by decide), qW_some]
/-! NEWS AND QUARREL -/
theorem nn_off : ∀ m, m < 10 → ∀ S, S < 1024 → (nn S &&& (((1 : Int32) <<< (nn m &&& 31)) ^^^ (-1))) = nn (andn S (2 ^ m)) := by decide +kernel
theorem xor_off {S m : Nat} (h : S.testBit m = true) : S ^^^ 2 ^ m = andn S (2 ^ m) := by
  apply Nat.eq_of_testBit_eq
  intro j
  rw [Nat.testBit_xor, andn_tb, Nat.testBit_two_pow]
  by_cases e : m = j
  · subst e
    rw [h, decide_eq_true rfl]; rfl
  · rw [decide_eq_false e]
    cases S.testBit j <;> rfl
theorem andn_sub {S T : Nat} : andn (andn S T) S = 0 := andn_0.mpr (fun j hj => by
  rw [andn_tb, Bool.and_eq_true] at hj
  exact hj.1)
theorem andn_self {S : Nat} : andn S S = 0 := andn_0.mpr (fun j hj => hj)
def aNews (s : Sg) (L : Nat → Lw) (x y : Int32) : Int32 := if knw s x then (if wiN y (gT s) then (if (cN x).testBit (cN y) then (if (fitL s L (andn (cN x) (2 ^ cN y))).length ≤ (fitL s L (cN x)).length then 0 else 1) else -1) else -1) else -1
theorem k_aNews {s : Sg} {L : Nat → Lw} {nl : Nat} {B : Nat → Nat} {n : Nat} {I : Nat → Option qa_M} {v : Nat} {h : qa_M} {x y : Int32} (a : AL s L nl) (i : IvC s L nl B n I v h) (hv : v < 2147483648) : qW (m_X11_news x y h) (fun z => z.1 = aNews s L x y ∧ IvC s L nl B n I v z.2) := by
  have e31 : h.1 3 1 = nn (gT s) := i.1.rs.2.1.trans a.wf.t.1
  have lt := a.wf.t.2
  have p := gT_pw a.wf
  unfold m_X11_news aNews
  rw [k_known a.wf i.1.rs, qbn_s]
  by_cases c : knw s x = true
  · obtain ⟨c0, S, hS, hS2, e⟩ := knw_t c
    rw [c, if_neg (by decide), if_pos rfl, e31, k_wi (by omega), qbn_s]
    by_cases c2 : wiN y (gT s) = true
    · obtain ⟨m, hm, -, ey⟩ := wiN_t c2
      rw [c2, if_neg (by decide), if_pos rfl, e, ey, cN_nn hS2, cN_nn (by omega), nn_bit m (by omega) S (by omega)]
      by_cases c3 : S.testBit m = true
      · have h1 := fit_len (L := L) (S := andn S (2 ^ m)) a.wf
        have h2 := fit_len (L := L) (S := S) a.wf
        rw [c3, if_neg (by decide), if_pos rfl, nn_sh1 (by omega), nn_xor, xor_off c3, qW_bn]
        refine qW_mono (k_howMany a i hv (by have := andn_le (a := S) (b := 2 ^ m); omega)) ?_
        rintro ⟨z1, g1⟩ ⟨ez1, ig1⟩
        have ez1 : z1 = _ := ez1
        subst ez1
        rw [qW_bn]
        refine qW_mono (k_howMany a ig1.c hv hS) ?_
        rintro ⟨z2, g2⟩ ⟨ez2, ig2⟩
        have ez2 : z2 = _ := ez2
        subst ez2
        dsimp only
        by_cases cl : (fitL s L (andn S (2 ^ m))).length ≤ (fitL s L S).length
        · rw [if_pos ((nn_le (by omega) (by omega)).mpr cl), if_pos cl, qW_some]; exact ⟨rfl, ig2.c⟩
        · rw [if_neg (fun q => cl ((nn_le (by omega) (by omega)).mp q)), if_neg cl, qW_some]; exact ⟨rfl, ig2.c⟩
      · rw [Bool.not_eq_true] at c3
        rw [c3, if_pos bi_f, if_neg (by decide), qW_some]; exact ⟨rfl, i⟩
    · rw [Bool.not_eq_true] at c2
      rw [c2, if_pos bi_f, if_neg (by decide), qW_some]; exact ⟨rfl, i⟩
  · rw [Bool.not_eq_true] at c
    rw [c, if_pos bi_f, if_neg (by decide), qW_some]; exact ⟨rfl, i⟩
theorem r_aNews {h : qa_M} {x y : Int32} (w : WF (sg h)) (wl : ∀ k, k + 1 = gL (sg h) → WL (lw h k)) : qW (m_X12_news x y h) (fun r => r.1 = aNews (sg h) (lw h) x y) := by
  have e5 : h.1 120 5 = nn (gT (sg h)) := w.t.1
  have lt := w.t.2
  have p := gT_pw w
  unfold m_X12_news aNews
  rw [r_known w, qbn_s]
  by_cases c : knw (sg h) x = true
  · obtain ⟨c0, S, hS, hS2, e⟩ := knw_t c
    rw [c, if_neg (by decide), if_pos rfl, qck_ok (i := 5) (by decide), show (5 : Int32).toNatClampNeg = 5 from rfl, e5, r_wi (by omega), qbn_s]
    by_cases c2 : wiN y (gT (sg h)) = true
    · obtain ⟨m, hm, -, ey⟩ := wiN_t c2
      rw [c2, if_neg (by decide), if_pos rfl, e, ey, cN_nn hS2, cN_nn (by omega), r_has32 hS2 (by omega), qbn_s]
      by_cases c3 : S.testBit m = true
      · have h1 := fit_len (L := lw h) (S := andn S (2 ^ m)) w
        have h2 := fit_len (L := lw h) (S := S) w
        have h3 := andn_le (a := S) (b := 2 ^ m)
        rw [c3, if_neg (by decide), if_pos rfl, qW_bv]
        refine qW_mono (r_fills w wl hS) ?_
        rintro g ⟨hf, s1⟩
        rw [nn_off m (by omega) S (by omega), qck_nn (by omega) (by omega), qck_nn (by omega) (by omega), nn_cl (by omega), nn_cl (by omega), hf _ andn_sub, hf _ andn_self]
        by_cases cl : (fitL (sg h) (lw h) (andn S (2 ^ m))).length ≤ (fitL (sg h) (lw h) S).length
        · rw [if_pos ((nn_le (by omega) (by omega)).mpr cl), if_pos cl, qW_some]
        · rw [if_neg (fun q => cl ((nn_le (by omega) (by omega)).mp q)), if_neg cl, qW_some]
      · rw [Bool.not_eq_true] at c3
        rw [c3, if_pos bi_f, if_neg (by decide), qW_some]
    · rw [Bool.not_eq_true] at c2
      rw [c2, if_pos bi_f, if_neg (by decide), qW_some]
  · rw [Bool.not_eq_true] at c
    rw [c, if_pos bi_f, if_neg (by decide), qW_some]
