/-! SEED, DRAWN -/
theorem sd_SP {s : Sg} {x : Int32} {L : Nat → Lw} {h : qa_M} (p : SP s L h) : SP (upS s 0 7 x) L h := p
theorem sd_al {s : Sg} {x : Int32} {L : Nat → Lw} : allL (upS s 0 7 x) L = allL s L := rfl
theorem sd_cR {s : Sg} {x : Int32} {m : Nat} : ∀ {l : List Nat}, cR (upS s 0 7 x) m l = cR s m l
  | [] => rfl
  | q :: st => by
    show cR (upS s 0 7 x) m st + (if inN (upS s 0 7 x) m st.length q then 1 else 0) = cR s m st + (if inN s m st.length q then 1 else 0)
    rw [sd_cR]
    rfl
theorem sd_fN {s : Sg} {x : Int32} : fitN (upS s 0 7 x) = fitN s := by
  funext m l
  unfold fitN
  rw [sd_cR]
  rfl
theorem sd_fA {s : Sg} {x : Int32} : fitA (upS s 0 7 x) = fitA s := by
  funext S l
  unfold fitA
  rw [sd_fN]
  rfl
theorem sd_fS {s : Sg} {x : Int32} : fitS (upS s 0 7 x) = fitS s := by
  funext S l
  unfold fitS
  rw [sd_fN]
  rfl
theorem sd_fL {s : Sg} {x : Int32} {L : Nat → Lw} : fitL (upS s 0 7 x) L = fitL s L := by
  funext S
  unfold fitL
  rw [sd_fA, sd_al]
theorem sd_FT {s : Sg} {x : Int32} {L : Nat → Lw} {h : qa_M} (p : FT s L h) : FT (upS s 0 7 x) L h := by
  unfold FT
  rw [sd_al, sd_fS]
  exact p
theorem sd_sO {s : Sg} {x : Int32} {V : Int64} : ∀ {l : List Nat}, sOn (upS s 0 7 x) V l = sOn s V l
  | [] => rfl
  | q :: st => by
    show (sOn (upS s 0 7 x) V st ||| (if tb V q then 2 ^ srt (upS s 0 7 x) st.length else 0)) = (sOn s V st ||| (if tb V q then 2 ^ srt s st.length else 0))
    rw [sd_sO]
    rfl
theorem sd_td {s : Sg} {x : Int32} : tld (upS s 0 7 x) = tld s := by
  funext V l
  unfold tld
  rw [sd_sO]
  rfl
theorem sd_vw {s : Sg} {x : Int32} : vws (upS s 0 7 x) = vws s := rfl
theorem sd_tl {s : Sg} {x : Int32} : tlV (upS s 0 7 x) = tlV s := by
  funext V D c
  unfold tlV
  rw [sd_td]
theorem sd_LK {s : Sg} {x : Int32} {L : Nat → Lw} {S m : Nat} {h : qa_M} (p : LK s L S m h) : LK (upS s 0 7 x) L S m h := by
  unfold LK
  rw [sd_vw, sd_tl, sd_fL]
  exact p
theorem sd_tw {s : Sg} {x : Int32} : twV (upS s 0 7 x) = twV s := by
  funext V W D a b
  unfold twV
  rw [sd_td]
theorem sd_v1 {s : Sg} {x : Int32} : vw (upS s 0 7 x) = vw s := rfl
theorem sd_PK {s : Sg} {x : Int32} {L : Nat → Lw} {S : Nat} {h : qa_M} (p : PK s L S h) : PK (upS s 0 7 x) L S h := by
  unfold PK
  rw [sd_tw, sd_v1, sd_fL]
  exact p
theorem CV.seed {s : Sg} {L : Nat → Lw} {v : Nat} {x : Int32} {h : qa_M} (c : CV s L v h) : CV (upS s 0 7 x) L v h := ⟨c.vs, VC_im c.sp sd_SP, VC_im c.ft sd_FT, VC_im c.lk (fun p S m h1 h2 h3 h4 => sd_LK (p S m h1 h2 h3 h4)), VC_im c.pk (fun p S h1 h2 => sd_PK (p S h1 h2))⟩
theorem k_newSeed {s : Sg} {L : Nat → Lw} {nl : Nat} {B : Nat → Nat} {n : Nat} {I : Nat → Option qa_M} {v : Nat} {h : qa_M} {x : Int32} (a : AL s L nl) (i : IvC s L nl B n I v h) : IvC (upS s 0 7 x) L nl B n I v (qw_I h 3 4 x) := by
  have f : qfr [(3, 5)] h (qw_I h 3 4 x) := qfr_Ik rfl (by simp) qfr_rf
  refine ⟨i.1.to a f ⟨?_, ?_, ?_, ?_, ?_⟩ (fun b j k => by unfold inW; simp; omega), (i.2.fr f (fun b j k => by unfold kpV at k; unfold inW; simp; omega)).seed⟩
  · exact (AgS_up (by omega)).rel a.wf (RelL_fr i.1.rs.1 (fun b j h1 h2 => (f.1 b j (by unfold inW; simp; omega)).1) (fun b j h1 h2 => (f.1 b j (by unfold inW; simp; omega)).2.1))
  · rw [upS_ne (by omega), (f.1 3 1 rfl).1]; exact i.1.rs.2.1
  · intro m k hm hk
    rw [upS_ne (by omega), (f.1 _ _ (by unfold inW; simp)).1]
    exact i.1.rs.2.2.1 m k hm hk
  · rw [upS_ne (by omega), (f.1 3 3 rfl).1]; exact i.1.rs.2.2.2.1
  · rw [upS_at, wI_at]
theorem r_newSeed {nl : Nat} {B : Nat → Nat} {n : Nat} {I : Nat → Option qa_M} {h : qa_M} {x : Int32} (i : IvR nl B n I h) (hx : inr x 2147483647) : IvR nl B n I (qw_I h 120 7 x) ∧ lw (qw_I h 120 7 x) = lw h ∧ sg (qw_I h 120 7 x) = upS (sg h) 0 7 x := by
  have f : qfr [(120, 8)] h (qw_I h 120 7 x) := qfr_Ik rfl (by simp) qfr_rf
  have es : sg (qw_I h 120 7 x) = upS (sg h) 0 7 x := sg_w (i := 0) (by omega)
  have wf : WF (upS (sg h) 0 7 x) := (AgS_up (s := sg h) (j := 7) (v := x) (by omega)).wf i.wf (by rw [upS_ne (by omega)]; exact i.wf.1.2.2.2.2.2.1) (by rw [upS_ne (by omega)]; exact i.wf.1.2.2.2.2.2.2.1) (by rw [upS_at]; exact hx) (fun k hk => by
    have hk : k < gT (sg h) := hk
    have := i.wf.2.2.2.2.2.1 k hk
    exact this) (fun q => (i.wf.2.2.2.2.2.2 q).2.2.2.2)
  have := i.keep f (fun b j k => by unfold kpR at k; unfold inW; simp; omega) (by rw [es]; exact wf) (fun a j h1 h2 => by
    rw [wI_ne (fun q => by obtain ⟨q1, q2⟩ := q; have : a = 0 := by omega
                           subst this; have : 8 ≤ j := h2; omega)]
    exact i.ob a j h1 h2) (by rw [es]; exact i.gl)
  exact ⟨this.1, this.2, es⟩
def aSeed (s : Sg) (x : Int32) : Int32 := if 0 ≤ x then s 0 7 else -1
def sSeed (s : Sg) (x : Int32) : Sg := if 0 ≤ x then upS s 0 7 x else s
theorem k_aSeed {s : Sg} {L : Nat → Lw} {nl : Nat} {B : Nat → Nat} {n : Nat} {I : Nat → Option qa_M} {v : Nat} {h : qa_M} {x : Int32} (a : AL s L nl) (i : IvC s L nl B n I v h) : qW (m_X11_seed x h) (fun z => z.1 = aSeed s x ∧ IvC (sSeed s x) L nl B n I v z.2) := by
  unfold m_X11_seed aSeed sSeed
  by_cases c : 0 ≤ x
  · rw [if_pos c, if_pos c, if_pos c, qbd_e, qbd_e, qW_some]
    exact ⟨i.1.rs.2.2.2.2, k_newSeed a i⟩
  · rw [if_neg c, if_neg c, if_neg c, qW_some]
    exact ⟨rfl, i⟩
theorem r_aSeed {nl : Nat} {B : Nat → Nat} {n : Nat} {I : Nat → Option qa_M} {h : qa_M} {x : Int32} (i : IvR nl B n I h) : qW (m_X12_seed x h) (fun z => z.1 = aSeed (sg h) x ∧ IvR nl B n I z.2 ∧ lw z.2 = lw h ∧ sg z.2 = sSeed (sg h) x) := by
  unfold m_X12_seed aSeed sSeed
  by_cases c : 0 ≤ x
  · rw [if_pos c, if_pos c, if_pos c, qck_ok (i := 7) (by decide), show (7 : Int32).toNatClampNeg = 7 from rfl, qbd_e, qck_ok (i := 7) (by decide), qbd_e, qW_some]
    obtain ⟨m, hm, e⟩ := nn_of (x := x) (by rw [Int32.le_iff_toInt_le, show (0 : Int32).toInt = 0 from rfl] at c; exact c)
    exact ⟨rfl, r_newSeed i ⟨m, by omega, e⟩⟩
  · rw [if_neg c, if_neg c, if_neg c, qW_some]
    exact ⟨rfl, i, rfl, rfl⟩
/-! the next number drawn -/
def nxS (x : Int32) : Int32 := ((x.toInt64 * (1103515245 : Int64) + (12345 : Int64)) - (x.toInt64 * (1103515245 : Int64) + (12345 : Int64)) / (2147483648 : Int64) * (2147483648 : Int64)).toInt32
theorem nxS_in {x : Int32} (h : inr x 2147483647) : inr (nxS x) 2147483647 := by
  obtain ⟨m, hm, rfl⟩ := h
  obtain ⟨y, hy⟩ : ∃ y : Int64, y = (nn m).toInt64 * 1103515245 + 12345 := ⟨_, rfl⟩
  have e0 : (nn m).toInt64.toInt = m := nn_64i (by omega)
  have e1 : y.toInt = (m : Int) * 1103515245 + 12345 := by
    rw [hy, Int64.toInt_add, Int64.toInt_mul, e0]
    rw [show (1103515245 : Int64).toInt = 1103515245 from rfl, show (12345 : Int64).toInt = 12345 from rfl]
    rw [Int.bmod_eq_of_le (n := (m : Int) * 1103515245) (by omega) (by omega), Int.bmod_eq_of_le (by omega) (by omega)]
  obtain ⟨Y, hY⟩ : ∃ Y : Int, Y = y.toInt := ⟨_, rfl⟩
  have b0 : 0 ≤ Y ∧ Y ≤ 2400000000000000000 := by omega
  have k : (2147483648 : Int64).toInt = 2147483648 := rfl
  have e2 : (y / 2147483648).toInt = Y / 2147483648 := by
    rw [Int64.toInt_div, k, ← hY, Int.tdiv_eq_ediv_of_nonneg b0.1, Int.bmod_eq_of_le (by omega) (by omega)]
  have e3 : (y / 2147483648 * 2147483648).toInt = Y / 2147483648 * 2147483648 := by
    rw [Int64.toInt_mul, e2, k, Int.bmod_eq_of_le (by omega) (by omega)]
  have e4 : (y - y / 2147483648 * 2147483648).toInt = Y - Y / 2147483648 * 2147483648 := by
    rw [Int64.toInt_sub, e3, ← hY, Int.bmod_eq_of_le (by omega) (by omega)]
  have e5 : (nxS (nn m)).toInt = Y - Y / 2147483648 * 2147483648 := by
    unfold nxS
    rw [← hy, Int64.toInt_toInt32, e4, Int.bmod_eq_of_le (by omega) (by omega)]
  obtain ⟨n, hn, e⟩ := nn_of (x := nxS (nn m)) (by omega)
  exact ⟨n, by omega, e⟩
def aDraw (s : Sg) (L : Nat → Lw) (x : Int32) : Int32 := if knw s x then (if (fitL s L (cN x)).length = 0 then -2 else nxS (s 0 7) / 65536 - nxS (s 0 7) / 65536 / nn (fitL s L (cN x)).length * nn (fitL s L (cN x)).length) else -1
def sDraw (s : Sg) (L : Nat → Lw) (x : Int32) : Sg := if knw s x then (if (fitL s L (cN x)).length = 0 then s else upS s 0 7 (nxS (s 0 7))) else s
theorem k_aDraw {s : Sg} {L : Nat → Lw} {nl : Nat} {B : Nat → Nat} {n : Nat} {I : Nat → Option qa_M} {v : Nat} {h : qa_M} {x : Int32} (a : AL s L nl) (i : IvC s L nl B n I v h) (hv : v < 2147483648) : qW (m_X11_drawn x h) (fun z => z.1 = aDraw s L x ∧ IvC (sDraw s L x) L nl B n I v z.2) := by
  unfold m_X11_drawn aDraw sDraw
  rw [k_known a.wf i.1.rs, qbn_s]
  by_cases c : knw s x = true
  · obtain ⟨c0, S, hS, hS2, e⟩ := knw_t c
    have fl := fit_len (L := L) (S := S) a.wf
    rw [c, if_neg (by decide), if_pos rfl, if_pos rfl, e, cN_nn hS2, qW_bn]
    refine qW_mono (k_howMany a i hv hS) ?_
    rintro ⟨z, g⟩ ⟨ez, ig⟩
    have ez : z = _ := ez
    subst ez
    have ig : IvS s L nl B n I v g := ig
    dsimp only
    rw [qbd_e]
    by_cases c1 : (fitL s L S).length = 0
    · rw [if_pos (by rw [c1]; rfl), if_pos c1, if_pos c1, qW_some]; exact ⟨rfl, ig.c⟩
    · have nz : ¬ nn (fitL s L S).length = 0 := fun q => by rw [show (0 : Int32) = nn 0 from rfl, nn_eq (by omega) (by omega)] at q; exact c1 q
      rw [if_neg nz, if_neg c1, if_neg c1]
      unfold m_X8_draw
      rw [ig.1.rs.2.2.2.2, qbd_e, qbn_s, qnz_f nz, qW_some]
      refine ⟨?_, k_newSeed a ig.c⟩
      show _ / (65536 : Int32) - _ = _
      rw [wI_at]
      rfl
  · rw [Bool.not_eq_true] at c
    rw [c, if_pos bi_f, if_neg (by decide), if_neg (by decide), qW_some]; exact ⟨rfl, i⟩
theorem r_aDraw {nl : Nat} {B : Nat → Nat} {n : Nat} {I : Nat → Option qa_M} {h : qa_M} {x : Int32} (i : IvR nl B n I h) : qW (m_X12_drawn x h) (fun z => z.1 = aDraw (sg h) (lw h) x ∧ IvR nl B n I z.2 ∧ lw z.2 = lw h ∧ sg z.2 = sDraw (sg h) (lw h) x) := by
  unfold m_X12_drawn aDraw sDraw
  rw [r_known i.wf, qbn_s]
  by_cases c : knw (sg h) x = true
  · obtain ⟨c0, S, hS, hS2, e⟩ := knw_t c
    have fl := fit_len (L := lw h) (S := S) i.wf
    rw [c, if_neg (by decide), if_pos rfl, if_pos rfl, e, cN_nn hS2, qW_bn]
    refine qW_fr (r_manyFit i.wf i.al.w1 hS) (fun z e => fr_X12_manyFit _ _ e) ?_
    rintro ⟨z, g⟩ ez f
    have ez : z = _ := ez
    subst ez
    have f : qfr w_X12_manyFit h g := f
    obtain ⟨ig, el, es⟩ := i.same f (fun b j k => by unfold kpR at k; unfold w_X12_manyFit inW; simp; omega)
    dsimp only
    rw [qbd_e]
    by_cases c1 : (fitL (sg h) (lw h) S).length = 0
    · rw [if_pos (by rw [c1]; rfl), if_pos c1, if_pos c1, qW_some]; exact ⟨rfl, ig, el, es⟩
    · have nz : ¬ nn (fitL (sg h) (lw h) S).length = 0 := fun q => by rw [show (0 : Int32) = nn 0 from rfl, nn_eq (by omega) (by omega)] at q; exact c1 q
      have e7 : g.1 120 7 = sg h 0 7 := by rw [← es]; rfl
      rw [if_neg nz, if_neg c1, if_neg c1, qck_ok (i := 7) (by decide), show (7 : Int32).toNatClampNeg = 7 from rfl, qck_ok (i := 7) (by decide), qbd_e, qck_ok (i := 7) (by decide), qnz_f nz, wI_at, e7, qW_some]
      obtain ⟨r1, r2, r3⟩ := r_newSeed (x := nxS (sg h 0 7)) ig (nxS_in i.wf.1.2.2.2.2.2.2.2)
      refine ⟨rfl, r1, by rw [← el]; exact r2, ?_⟩
      rw [← es]
      rw [← es] at r3
      exact r3
  · rw [Bool.not_eq_true] at c
    rw [c, if_pos bi_f, if_neg (by decide), if_neg (by decide), qW_some]; exact ⟨rfl, i, rfl, rfl⟩
