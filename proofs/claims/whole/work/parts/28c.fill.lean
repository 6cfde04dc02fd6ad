/-! COUNTED FOR ALL SETS TOGETHER -/
def andn (a b : Nat) : Nat := a ^^^ (a &&& b)
theorem andn_tb {a b i : Nat} : (andn a b).testBit i = (a.testBit i && !b.testBit i) := by
  unfold andn
  rw [Nat.testBit_xor, Nat.testBit_and]
  cases a.testBit i <;> cases b.testBit i <;> rfl
theorem nn_adn (a b : Nat) : nn a &&& (nn b ^^^ (-1)) = nn (andn a b) := by
  rw [← Int32.toBitVec_inj, Int32.toBitVec_and, Int32.toBitVec_xor]
  show BitVec.ofNat 32 a &&& (BitVec.ofNat 32 b ^^^ BitVec.allOnes 32) = BitVec.ofNat 32 (andn a b)
  apply BitVec.eq_of_getLsbD_eq
  intro i hi
  simp only [BitVec.getLsbD_and, BitVec.getLsbD_xor, BitVec.getLsbD_ofNat, BitVec.getLsbD_allOnes, andn_tb, decide_eq_true hi, Bool.true_and]
  cases a.testBit i <;> cases b.testBit i <;> rfl
theorem nn_am1 (a : Nat) : nn a &&& (-1) = nn a := by
  rw [← Int32.toBitVec_inj, Int32.toBitVec_and]
  show BitVec.ofNat 32 a &&& BitVec.allOnes 32 = BitVec.ofNat 32 a
  rw [BitVec.and_allOnes]
theorem nn_am2 (a : Nat) : nn a &&& ((-1 : Int32) ^^^ (-1)) = nn 0 := by
  rw [show ((-1 : Int32) ^^^ (-1)) = nn 0 from rfl, nn_and, Nat.and_zero]
/-- does a note fit so many things -/
def fitC (s : Sg) (m c : Nat) : Bool := if sur s m < 0 then decide (0 < c) else decide ((c : Int) ≤ sur s m)
theorem fitN_C {s : Sg} {m : Nat} {l : List Nat} : fitN s m l = fitC s m (cR s m l) := by
  rw [Bool.eq_iff_iff, fitN_iff]
  unfold fitC
  split <;> rw [decide_eq_true_eq]
def cMk (s : Sg) (j : Nat) (f : Nat → Nat) : Nat := nmk (fun m => decide (j ≤ f m)) (gT s)
theorem nmk_hi {p : Nat → Bool} {n k : Nat} (h : n ≤ k) : (nmk p n).testBit k = false := by rw [nmk_tb, decide_eq_false (by omega)]; rfl
/-- the class's word for which notes fit -/
theorem k_fitting {s : Sg} {h : qa_M} (w : WF s) (hb : ∀ c, c < 5 → h.1 37 c = nn (bsr s c)) {f : Nat → Nat} (hf : ∀ m, m < gT s → f m ≤ 3) :
    m_X1_fitting (nn (cMk s 1 f)) (nn (cMk s 2 f)) (nn (cMk s 3 f)) 0 h = some (nn (nmk (fun m => fitC s m (f m)) (gT s)), h) ∧ m_X1_fitting (-1) (nn (cMk s 1 f)) (nn (cMk s 2 f)) (nn (cMk s 3 f)) h = some (nn (nmk (fun m => fitC s m (f m + 1)) (gT s)), h) := by
  have hs : ∀ m, m < gT s → sur s m < 0 ∨ sur s m = 0 ∨ sur s m = 1 ∨ sur s m = 2 ∨ sur s m = 3 := by
    intro m hm
    obtain ⟨m1, m2, m3, m4⟩ := w.ns hm
    unfold sur
    omega
  unfold m_X1_fitting
  simp (disch := first | omega | decide) only [qbn_x, qbv_x, qup_x, qbd_x, qck_nn, qck_ok, nn_cl, nn_add1, lx0, lx1, lx2, lx3, lx4, lx5, lx6, lx7, lx8, lx9, lx10, bi_e0, bi_e1]
  rw [hb 4 (by omega), hb 0 (by omega), hb 1 (by omega), hb 2 (by omega), hb 3 (by omega)]
  constructor
  · rw [show (0 : Int32) = nn 0 from rfl, nn_and, nn_adn, nn_adn, nn_adn, nn_adn, nn_or, nn_or, nn_or, nn_or]
    congr 3
    apply Nat.eq_of_testBit_eq
    intro i
    simp only [Nat.testBit_or, Nat.testBit_and, andn_tb, bsr, cMk, nmk_tb, Nat.zero_testBit]
    by_cases c : i < gT s
    · have := hf i c
      simp only [decide_eq_true c, Bool.true_and]
      unfold bsP fitC
      rcases hs i c with e | e | e | e | e
      · simp [e, show ¬ sur s i = 0 by omega, show ¬ sur s i = 1 by omega, show ¬ sur s i = 2 by omega, show ¬ sur s i = 3 by omega]
        omega
      · simp [e]
        rw [Bool.eq_iff_iff]; simp
        omega
      · simp [e]
        rw [Bool.eq_iff_iff]; simp; omega
      · simp [e]
        rw [Bool.eq_iff_iff]; simp; omega
      · simp [e]
        omega
    · simp [c]
  · rw [nn_am1, nn_am2, nn_adn, nn_adn, nn_adn, nn_or, nn_or, nn_or, nn_or]
    congr 3
    apply Nat.eq_of_testBit_eq
    intro i
    simp only [Nat.testBit_or, Nat.testBit_and, andn_tb, bsr, cMk, nmk_tb, Nat.zero_testBit]
    by_cases c : i < gT s
    · have := hf i c
      simp only [decide_eq_true c, Bool.true_and]
      unfold bsP fitC
      rcases hs i c with e | e | e | e | e
      · simp [e, show ¬ sur s i = 0 by omega, show ¬ sur s i = 1 by omega, show ¬ sur s i = 2 by omega, show ¬ sur s i = 3 by omega]
      · simp [e]
      · simp [e]
        rw [Bool.eq_iff_iff]; simp; omega
      · simp [e]
        rw [Bool.eq_iff_iff]; simp; omega
      · simp [e]
        rw [Bool.eq_iff_iff]; simp; omega
    · simp [c]
/-- the key of a laying, by what is spoken of the last thing's square -/
def kx (W V g : Nat) : Nat := andn W g ||| (V &&& g)
theorem kx_key {s : Sg} {st : List Nat} {q : Nat} : kx (nmk (fun m => fitC s m (cR s m st)) (gT s)) (nmk (fun m => fitC s m (cR s m st + 1)) (gT s)) (spk s (srt s st.length) q) = nmk (fun m => fitN s m (q :: st)) (gT s) := by
  apply Nat.eq_of_testBit_eq
  intro i
  unfold kx spk
  simp only [Nat.testBit_or, Nat.testBit_and, andn_tb, nmk_tb]
  by_cases c : i < gT s
  · simp only [decide_eq_true c, Bool.true_and, fitN_C, cR_c]
    rw [show decide (srt s st.length = nSort s i) = decide (nSort s i = srt s st.length) by rw [decide_eq_decide]; exact eq_comm]
    cases (decide (nSort s i = srt s st.length) && tb (reg s i) q) <;> simp
  · simp [c]
theorem fitS_all {s : Sg} {l : List Nat} (w : WF s) : fitS s 1023 l = nmk (fun m => fitN s m l) (gT s) := by
  have l10 := w.t.2
  unfold fitS
  apply nmk_congr
  intro m hm
  have : ∀ m, m < 10 → (1023 : Nat).testBit m = true := by decide
  rw [this m (by omega), Bool.true_and]
theorem kx_lt {W V g : Nat} (hW : W < 1024) (hV : V < 1024) : kx W V g < 1024 := by
  unfold kx andn
  refine Nat.or_lt_two_pow (n := 10) (Nat.xor_lt_two_pow (n := 10) hW ?_) ?_
  · exact Nat.lt_of_le_of_lt Nat.and_le_left hW
  · exact Nat.lt_of_le_of_lt Nat.and_le_left hV
theorem nmk_lt10 {s : Sg} (w : WF s) {p : Nat → Bool} : nmk p (gT s) < 1024 := by
  have := nmk_lt (p := p) (n := gT s)
  have : 2 ^ gT s ≤ 2 ^ 10 := Nat.pow_le_pow_right (by omega) w.t.2
  omega
theorem cnt_or {p q : Nat → Bool} : ∀ {n : Nat}, (∀ k, k < n → ¬ (p k = true ∧ q k = true)) → cnt (fun k => p k || q k) n = cnt p n + cnt q n
  | 0, _ => rfl
  | n + 1, h => by
    show cnt (fun k => p k || q k) n + (if (p n || q n) = true then 1 else 0) = (cnt p n + (if p n = true then 1 else 0)) + (cnt q n + (if q n = true then 1 else 0))
    rw [cnt_or (fun k hk => h k (by omega))]
    have := h n (by omega)
    cases e1 : p n <;> cases e2 : q n <;> simp [e1, e2] at this ⊢ <;> omega
theorem k_countLayings {s : Sg} {L : Nat → Lw} {h : qa_M} {b : List Nat × Int64} {M : Nat → Nat} (w : WF s) (sp : SP s L h) (hb : ∀ c, c < 5 → h.1 37 c = nn (bsr s c)) (hk : ∀ o q, o < 4 → q < 36 → h.1 36 (o * 36 + q) = nn (spk s o q)) (gr : GrP (spk s (if nT s = 0 then 0 else srt s (nT s - 1))) 36 h) (e15 : h.2.1 22 15 = b.2) (hs : stk (h.1 31) b.1) (hm : b ∈ batC s L 0) (hM : ∀ T, T < 1024 → h.1 35 T = nn (M T)) :
    qW (m_X1_countLayings h) (fun g => ∀ T, T < 1024 → g.1 35 T = nn (M T + (flC s b).countP (fun l => decide (fitS s 1023 l = T)))) := by
  have hn := w.n
  have l4 := w.s.2
  have h36 : lt36 b.1 := by
    rcases bat_mem hm with ⟨-, rfl⟩ | ⟨-, e, -⟩
    · trivial
    · exact good_lt e
  have hlen : b.1.length = nT s - 1 := by
    rcases bat_mem hm with ⟨c, rfl⟩ | ⟨-, -, e, -⟩
    · rw [c]; rfl
    · omega
  let cT : Nat → Nat → Nat := fun k m => cnt (fun o => inN s m o (cN (h.1 31 o))) k
  have hcT : ∀ m, cT b.1.length m = cR s m b.1 := fun m => cnt_stk (f := cR s m) rfl (fun _ _ => rfl) hs h36
  have main : qW (f_X1_countLayings_b69 (nn (cMk s 1 (cT b.1.length))) (nn (cMk s 2 (cT b.1.length))) (nn (cMk s 3 (cT b.1.length))) h) (fun g => ∀ T, T < 1024 → g.1 35 T = nn (M T + (flC s b).countP (fun l => decide (fitS s 1023 l = T)))) := by
    have hcf : ∀ m, m < gT s → cT b.1.length m ≤ 3 := fun m _ => by rw [hcT]; have := cR_le (s := s) (m := m) (l := b.1); omega
    obtain ⟨k1, k2⟩ := k_fitting w hb hcf
    unfold f_X1_countLayings_b69
    rw [k1, qbn_s, qbd_e, k2, qbn_s, qbd_e, qbd_e]
    simp only [hcT]
    obtain ⟨W, hW⟩ : ∃ W, W = nmk (fun m => fitC s m (cR s m b.1)) (gT s) := ⟨_, rfl⟩
    obtain ⟨V, hV⟩ : ∃ V, V = nmk (fun m => fitC s m (cR s m b.1 + 1)) (gT s) := ⟨_, rfl⟩
    rw [← hW, ← hV]
    have hWl : W < 1024 := by rw [hW]; exact nmk_lt10 w
    have hVl : V < 1024 := by rw [hV]; exact nmk_lt10 w
    obtain ⟨G, gN, e4, g1, g2, gn, gi, g0, gm, gz, gx⟩ := gr
    unfold f_X1_countLayings_b94_loop
    obtain ⟨spq, hspq⟩ : ∃ f, f = spk s (if nT s = 0 then 0 else srt s (nT s - 1)) := ⟨_, rfl⟩
    rw [← hspq] at gm gz gx
    -- what the first groups count
    let Cn : Nat → Nat → Nat := fun i T => cnt (fun q => tb b.2 q && (exN (fun g => decide (gN g = spq q)) i && decide (kx W V (spq q) = T))) 36
    have big : ∀ T, (flC s b).countP (fun l => decide (fitS s 1023 l = T)) = (if nT s = 0 then (if kx W V 0 = T then 1 else 0) else Cn G T) := by
      intro T
      unfold flC
      by_cases c : nT s = 0
      · rw [if_pos c, if_pos c]
        have hb1 : b.1 = [] := by
          rcases bat_mem hm with ⟨-, rfl⟩ | ⟨q, -⟩
          · rfl
          · omega
        have : fitS s 1023 [] = kx W V 0 := by
          rw [fitS_all w, hW, hb1]
          unfold kx
          rw [Nat.and_zero, Nat.or_zero]
          apply Nat.eq_of_testBit_eq
          intro i
          rw [andn_tb, nmk_tb, nmk_tb, Nat.zero_testBit, fitN_C]
          simp
        rw [List.countP_cons, List.countP_nil, this]
        simp
      · rw [if_neg c, if_neg c, flat_cnt]
        apply cnt_congr
        intro q hq
        congr 1
        have he : exN (fun g => decide (gN g = spq q)) G = true := by
          obtain ⟨y, y1, y2⟩ := gx q hq
          exact exN_iff.mpr ⟨y, y1, decide_eq_true y2⟩
        rw [he, Bool.true_and, fitS_all w, ← kx_key, hW, hV, hspq, if_neg c, hlen]
    have grp : ∀ i, i < G → (if nT s = 0 then (bc (b.2 &&& h.2.1 38 i) = if i = 0 then 1 else 0) else bc (b.2 &&& h.2.1 38 i) = cnt (fun q => tb b.2 q && decide (gN i = spq q)) 36) := by
      intro i hi
      rcases bat_mem hm with ⟨c, rfl⟩ | ⟨c, -, -, e2, -⟩
      · rw [if_pos c]
        by_cases ci : i = 0
        · subst ci
          rw [if_pos rfl]
          have : (4611686018427387904 : Int64) &&& h.2.1 38 0 = 4611686018427387904 := by
            apply tb_ext
            intro k hk
            rw [tb_and, tb_p62 k hk, gz k hk]
            by_cases d : k = 62
            · subst d; rfl
            · rw [decide_eq_false d]; rfl
          show bc ((4611686018427387904 : Int64) &&& h.2.1 38 0) = 1
          rw [this]
          decide +kernel
        · rw [if_neg ci]
          apply bc_0
          intro k
          rw [tb_and, gm i (by omega) hi]
          rcases Nat.lt_or_ge k 36 with a | a
          · show (tb 4611686018427387904 k && _) = false
            rw [tb_p62 k (by omega), decide_eq_false (by omega)]; rfl
          · rw [tb_mkm (by omega), decide_eq_false (by omega)]; simp
      · rw [if_neg (by omega)]
        have hb36 : ∀ k, 36 ≤ k → tb b.2 k = false := fun k hk => by rw [e2]; exact msk_hi hk
        rw [bc_cnt (fun k hk => by rw [tb_and, hb36 k hk]; rfl)]
        apply cnt_congr
        intro q hq
        rw [tb_and]
        congr 1
        by_cases ci : i = 0
        · subst ci
          rw [gz q (by omega), decide_eq_true hq, g0]
          rw [Bool.eq_iff_iff]; simp
          exact eq_comm
        · rw [gm i (by omega) hi, tb_mkm (by omega), decide_eq_true hq]
          rw [Bool.eq_iff_iff]; simp
          exact eq_comm
    refine qW_for G (fun i t => ∃ g, t = (nn W, nn V, nn i, g) ∧ qfr [(35, 0)] h g ∧ ∀ T, T < 1024 → g.1 35 T = nn (M T + (if nT s = 0 then (if 0 < i ∧ kx W V 0 = T then 1 else 0) else Cn i T))) ?_ ?_ (Nat.zero_le _) ⟨h, rfl, qfr_rf, fun T hT => ?_⟩
    · rintro i t hi ⟨g, rfl, fg, hg⟩
      obtain ⟨n1, n2⟩ := gn i hi
      have kl := kx_lt (W := W) (V := V) (g := gN i) hWl hVl
      show qW (f_X1_countLayings_b94 (nn W) (nn V) (nn i) g) _
      unfold f_X1_countLayings_b94
      rw [(fg.1 34 4 rfl).1, e4, if_neg (fun q => by rw [nn_le (by omega) (by omega)] at q; omega), (fg.1 22 15 rfl).2.1, e15, bc_spec]
      simp (disch := first | omega | decide) only [qbn_x, qbv_x, qup_x, qbd_x, qck_nn, qck_ok, nn_cl, nn_add1, lx0, lx1, lx2, lx3, lx4, lx5, lx6, lx7, lx8, lx9, lx10, bi_e0, bi_e1]
      rw [(fg.1 39 i rfl).1, n1, nn_adn, nn_and, nn_or, show andn W (gN i) ||| V &&& gN i = kx W V (gN i) from rfl, (fg.1 38 i rfl).2.1]
      simp (disch := first | omega | decide) only [qbn_x, qbv_x, qup_x, qbd_x, qck_nn, qck_ok, nn_cl, nn_add1, lx0, lx1, lx2, lx3, lx4, lx5, lx6, lx7, lx8, lx9, lx10, bi_e0, bi_e1]
      rw [hg _ kl, nn_add, qW_some]
      refine ⟨_, rfl, qfr_I0 rfl (by simp) fg, fun T hT => ?_⟩
      have hgi := grp i hi
      by_cases c : nT s = 0
      · rw [if_pos c] at hgi
        simp only [if_pos c] at hg ⊢
        by_cases ct : T = kx W V (gN i)
        · subst ct
          rw [wI_at, hgi]
          congr 1
          by_cases ci : i = 0
          · subst ci; rw [g0]; simp
          · have : ¬ (kx W V 0 = kx W V (gN i) ∧ False) := by simp
            simp [ci, show 0 < i by omega]
        · rw [wI_ne (fun q => ct q.2), hg T hT]
          congr 2
          by_cases ci : i = 0
          · subst ci
            rw [g0] at ct
            simp [Ne.symm ct]
          · simp [show 0 < i by omega]
      · rw [if_neg c] at hgi
        simp only [if_neg c] at hg ⊢
        have stepC : Cn (i + 1) T = Cn i T + (if kx W V (gN i) = T then bc (b.2 &&& h.2.1 38 i) else 0) := by
          rw [hgi]
          have e1 : Cn (i + 1) T = cnt (fun q => (tb b.2 q && (exN (fun g => decide (gN g = spq q)) i && decide (kx W V (spq q) = T))) || (tb b.2 q && (decide (gN i = spq q) && decide (kx W V (spq q) = T)))) 36 := by
            apply cnt_congr
            intro q _
            show (tb b.2 q && ((exN _ i || decide (gN i = spq q)) && _)) = _
            cases tb b.2 q <;> cases exN (fun g => decide (gN g = spq q)) i <;> cases decide (gN i = spq q) <;> cases decide (kx W V (spq q) = T) <;> rfl
          rw [e1, cnt_or]
          · congr 1
            by_cases ct : kx W V (gN i) = T
            · rw [if_pos ct]
              apply cnt_congr
              intro q _
              by_cases cq : gN i = spq q
              · rw [← cq, decide_eq_true rfl, decide_eq_true ct]; simp
              · rw [decide_eq_false cq]; simp
            · rw [if_neg ct]
              rw [cnt_congr (q := fun _ => false) (fun q _ => ?_)]
              · decide
              · by_cases cq : gN i = spq q
                · rw [← cq, decide_eq_false ct]; simp
                · rw [decide_eq_false cq]; simp
          · rintro q _ ⟨a, b⟩
            simp only [Bool.and_eq_true, decide_eq_true_eq] at a b
            obtain ⟨y, y1, y2⟩ := exN_iff.mp a.2.1
            have y2 : gN y = spq q := of_decide_eq_true y2
            have := gi y i (by omega) hi (by rw [y2, b.2.1])
            omega
        rw [stepC]
        by_cases ct : T = kx W V (gN i)
        · subst ct
          rw [wI_at, if_pos rfl]
          congr 1
          omega
        · rw [wI_ne (fun q => ct q.2), hg T hT, if_neg (fun q => ct q.symm)]
          rfl
    · rintro t ⟨g, rfl, fg, hg⟩
      show qW (f_X1_countLayings_b94 (nn W) (nn V) (nn G) g) _
      unfold f_X1_countLayings_b94
      rw [(fg.1 34 4 rfl).1, e4, if_pos ((nn_le (by omega) (by omega)).mpr (by omega)), qup_s, qW_some]
      intro T hT
      rw [hg T hT, big T]
      congr 2
      by_cases c : nT s = 0
      · rw [if_pos c, if_pos c]
        simp [show 0 < G by omega]
      · rw [if_neg c, if_neg c]
    · rw [hM T hT]
      congr 1
      by_cases c : nT s = 0
      · rw [if_pos c]; simp
      · rw [if_neg c]
        have : Cn 0 T = 0 := by
          show cnt _ 36 = 0
          rw [cnt_congr (q := fun _ => false) (fun q _ => by simp [exN])]
          decide
        omega
  unfold m_X1_countLayings
  simp only [qbd_x]
  unfold f_X1_countLayings_b10_loop
  have z0 : ∀ j, 1 ≤ j → cMk s j (cT 0) = 0 := by
    intro j hj
    unfold cMk
    apply Nat.eq_of_testBit_eq
    intro i
    rw [nmk_tb, Nat.zero_testBit, decide_eq_false (show ¬ j ≤ cT 0 i by show ¬ j ≤ 0; omega), Bool.and_false]
  refine qW_for b.1.length (fun k t => t = (nn (cMk s 1 (cT k)), nn (cMk s 2 (cT k)), nn (cMk s 3 (cT k)), nn k, h)) ?_ ?_ (Nat.zero_le _) (by rw [z0 1 (by omega), z0 2 (by omega), z0 3 (by omega)]; rfl)
  · rintro k t hk2 rfl
    obtain ⟨a, ha, ea⟩ := stk_at hs h36 k hk2
    have sk := srt_lt (s := s) (show k < nT s by omega)
    show qW (f_X1_countLayings_b10 (nn _) (nn _) (nn _) (nn k) h) _
    unfold f_X1_countLayings_b10 m_X7_placed m_X7_placedSort m_X7_placedAt
    rw [qbn_s, sp.1, nn_sub1 (by omega), if_neg (fun q => by rw [nn_le (by omega) (by omega)] at q; omega)]
    simp (disch := first | omega | decide) only [qbn_x, qbv_x, qup_x, qbd_x, qck_nn, qck_ok, nn_cl, nn_add1, lx0, lx1, lx2, lx3, lx4, lx5, lx6, lx7, lx8, lx9, lx10, bi_e0, bi_e1]
    rw [sp.2.1 k (by omega), ea, show (36 : Int32) = nn 36 from rfl, nn_mul, nn_add]
    simp (disch := first | omega | decide) only [qbn_x, qbv_x, qup_x, qbd_x, qck_nn, qck_ok, nn_cl, nn_add1, lx0, lx1, lx2, lx3, lx4, lx5, lx6, lx7, lx8, lx9, lx10, bi_e0, bi_e1]
    rw [hk _ _ (by omega) ha, nn_and, nn_or, nn_and, nn_or, nn_or, qW_some]
    have hstep : ∀ m, cT (k + 1) m = cT k m + (if (decide (srt s k = nSort s m) && tb (reg s m) a) = true then 1 else 0) := by
      intro m
      show cnt (fun o => inN s m o (cN (h.1 31 o))) k + (if inN s m k (cN (h.1 31 k)) = true then 1 else 0) = _
      unfold inN
      rw [ea, cN_nn (by omega)]
      rfl
    have hor : ∀ j, 1 ≤ j → cMk s (j + 1) (cT k) ||| (cMk s j (cT k) &&& spk s (srt s k) a) = cMk s (j + 1) (cT (k + 1)) := by
      intro j hj
      apply Nat.eq_of_testBit_eq
      intro i
      unfold cMk spk
      simp only [Nat.testBit_or, Nat.testBit_and, nmk_tb]
      by_cases c : i < gT s
      · rw [decide_eq_true c, hstep i, show decide (nSort s i = srt s k) = decide (srt s k = nSort s i) by rw [decide_eq_decide]; exact eq_comm]
        cases (decide (srt s k = nSort s i) && tb (reg s i) a) <;> simp
        omega
      · simp [c]
    have hor1 : cMk s 1 (cT k) ||| spk s (srt s k) a = cMk s 1 (cT (k + 1)) := by
      apply Nat.eq_of_testBit_eq
      intro i
      unfold cMk spk
      simp only [Nat.testBit_or, nmk_tb]
      by_cases c : i < gT s
      · rw [decide_eq_true c, hstep i, show decide (nSort s i = srt s k) = decide (srt s k = nSort s i) by rw [decide_eq_decide]; exact eq_comm]
        cases (decide (srt s k = nSort s i) && tb (reg s i) a) <;> simp
      · simp [c]
    rw [hor 2 (by omega), hor 1 (by omega), hor1]
    rfl
  · rintro t rfl
    show qW (f_X1_countLayings_b10 (nn _) (nn _) (nn _) (nn b.1.length) h) _
    unfold f_X1_countLayings_b10 m_X7_placed
    rw [qbn_s, sp.1]
    have : nn (nT s) - 1 ≤ nn b.1.length := by
      rw [Int32.le_iff_toInt_le, nn_m1 (by omega), nn_toInt (by omega)]
      omega
    rw [if_pos this, qW_up]
    exact main
