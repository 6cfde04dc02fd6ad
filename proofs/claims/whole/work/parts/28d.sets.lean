/-! THE CLASS'S COUNTS OF ALL SETS, KEPT -/
def FT (s : Sg) (L : Nat → Lw) (h : qa_M) : Prop := ∀ T, T < 1024 → h.1 35 T = nn (zt ((allL s L).map (fitS s 1023)) 10 T)
theorem BS_fr {W : List (Nat × Nat)} {s : Sg} {L : Nat → Lw} {S : Nat} {B : List (List Nat × Int64)} {h g : qa_M} (bs : BS s L S B h) (f : qfr W h g) (hw : ∀ b j, 22 ≤ b → b ≤ 32 → inW W b j = false) : BS s L S B g := by
  obtain ⟨a1, a2, a3, a4⟩ := bs
  refine ⟨Near_fr a1 f (fun j => hw _ _ (by omega) (by omega)), SP_fr a2 f (hw _ _ (by omega) (by omega)) (fun b j h1 h2 => hw _ _ (by omega) (by omega)), NSp_fr a3 f (hw _ _ (by omega) (by omega)) (fun b j h1 h2 => hw _ _ (by omega) (by omega)), ?_⟩
  have q1 : g.1 22 12 = h.1 22 12 := (f.1 22 12 (hw _ _ (by omega) (by omega))).1
  have q2 : g.1 31 = h.1 31 := by funext j; exact (f.1 31 j (hw _ _ (by omega) (by omega))).1
  have q3 : g.2.1 32 = h.2.1 32 := by funext j; exact (f.1 32 j (hw _ _ (by omega) (by omega))).2.1
  rw [q1, q2, q3]
  exact a4
theorem fitL_0 {s : Sg} {L : Nat → Lw} : fitL s L 0 = allL s L := by
  unfold fitL
  rw [List.filter_eq_self]
  intro l _
  unfold fitA
  rw [decide_eq_true_eq]
  intro m _ h
  rw [Nat.zero_testBit] at h
  cases h
theorem zt_app {K : List Nat} {K2 : List Nat} {T : Nat} (hT : T < 1024) (hk : ∀ k, k ∈ K2 → k < 1024) : zt (K ++ K2) 0 T = zt K 0 T + K2.countP (fun k => decide (k = T)) := by
  unfold zt
  rw [List.countP_append]
  congr 1
  apply List.countP_congr
  intro k h
  rw [mt_0 hT (hk k h)]
theorem k_fillF {s : Sg} {L : Nat → Lw} {h : qa_M} {x : Int32} (w : WF s) (wl : ∀ k, k + 1 = gL s → WL (L k)) (nt : NearT h) (sp : SP s L h) (r : RelS 3 s h) (hx : h.1 34 0 = x → FT s L h) :
    qW (m_X1_fill x h) (fun g => FT s L g ∧ g.1 34 0 = x) := by
  have hn := w.n
  have l4 := w.s.2
  unfold m_X1_fill
  by_cases c : h.1 34 0 = x
  · rw [if_pos c, qW_some]
    exact ⟨hx c, c⟩
  · rw [if_neg c, qbd_e, qW_bv]
    have f0 : qfr [(34, 1)] h (qw_I h 34 0 x) := qfr_Ik rfl (by simp) qfr_rf
    refine qW_fr (k_sortNotes w (RelS_fr r f0 (fun c j h1 h2 => by unfold inW; simp; omega))) (fun g e => fr_X1_sortNotes _ e) ?_
    rintro g1 ⟨hb1, hk1⟩ f1
    have f1 : qfr [(36, 0), (37, 0)] (qw_I h 34 0 x) g1 := f1
    rw [qW_bv]
    refine qW_fr (k_fill (h := g1) (a := 35) (n := 1024) (v := 0) (fun g => wl_35 g) (by omega)) (fun g e => fr_J7_fill_53178 _ _ _ e) ?_
    intro g2 z2 f2
    have f2 : qfr [(35, 0)] g1 g2 := f2
    have fa : qfr [(34, 1), (35, 0), (36, 0), (37, 0)] h g2 := qfr_tr (qfr_sub (qsub_c (by simp) qsub_nil) f0) (qfr_tr (qfr_sub (qsub_c (by simp) (qsub_c (by simp) qsub_nil)) f1) (qfr_sub (qsub_c (by simp) qsub_nil) f2))
    have e34 : g2.1 34 0 = x := by rw [(f2.1 34 0 rfl).1, (f1.1 34 0 rfl).1]; exact wI_at
    rw [qW_bv, show (0 : Int32) = nn 0 from rfl]
    refine qW_fr (k_startB (S := 0) w wl (Near_fr nt fa (fun j => rfl)) (SP_fr sp fa rfl (fun b j h1 h2 => by unfold inW; simp; omega)) (RelS_fr r fa (fun c j h1 h2 => by unfold inW; simp; omega)) (Nat.pow_pos (by omega))) (fun g e => fr_X7_start _ _ e) ?_
    intro g3 bs f3
    have f3 : qfr w_X7_start g2 g3 := f3
    rw [k_lastSort w bs.2.1, qbn_s, qW_bv]
    have hk3 : ∀ o q, o < 4 → q < 36 → g3.1 36 (o * 36 + q) = nn (spk s o q) := fun o q ho hq => by rw [(f3.1 36 _ rfl).1, (f2.1 36 _ rfl).1]; exact hk1 o q ho hq
    have hls : (if nT s = 0 then 0 else srt s (nT s - 1)) < 4 := by
      split
      · omega
      · have := srt_lt (s := s) (show nT s - 1 < nT s by omega)
        omega
    refine qW_fr (k_group (h := g3) (sp := spk s (if nT s = 0 then 0 else srt s (nT s - 1))) hls (fun q hq => ⟨nmk_lt10 w, hk3 _ q hls hq⟩)) (fun g e => fr_X1_groupSquares _ _ e) ?_
    intro g4 gr f4
    have f4 : qfr [(34, 5), (38, 0), (39, 0)] g3 g4 := f4
    rw [qbd_e]
    unfold f_X1_fill_b43_loop
    have bl := bat_len (L := L) (S := 0) w
    have c37 : ∀ c, c < 5 → g4.1 37 c = nn (bsr s c) := fun c hc => by rw [(f4.1 37 c rfl).1, (f3.1 37 c rfl).1, (f2.1 37 c rfl).1]; exact hb1 c hc
    have c36 : ∀ o q, o < 4 → q < 36 → g4.1 36 (o * 36 + q) = nn (spk s o q) := fun o q ho hq => by rw [(f4.1 36 _ rfl).1]; exact hk3 o q ho hq
    have c35 : ∀ T, T < 1024 → g4.1 35 T = nn 0 := fun T hT => by rw [(f4.1 35 T rfl).1, (f3.1 35 T rfl).1]; exact z2 T hT
    have c34 : g4.1 34 0 = x := by rw [(f4.1 34 0 rfl).1, (f3.1 34 0 rfl).1]; exact e34
    refine qW_lst (fun rem t => ∃ g k D, t = (nn k, g) ∧ BS s L 0 rem g ∧ (∀ b, b ∈ rem → b ∈ batC s L 0) ∧ k + rem.length ≤ 46656 ∧ D ++ rem.flatMap (flC s) = allL s L ∧ qfr [(22, 13), (22, 16), (31, 0), (32, 0), (35, 0)] g4 g ∧ ∀ T, T < 1024 → g.1 35 T = nn (zt (D.map (fitS s 1023)) 0 T)) ?_ ?_ _ _ ⟨g4, 0, [], rfl, BS_fr bs f4 (fun b j h1 h2 => by unfold inW; simp; omega), fun _ h => h, by omega, by rw [bat_flat w, fitL_0]; rfl, qfr_rf, c35⟩
    · rintro b rem t ⟨g, k, D, rfl, bs, hm, hk, hD, fg, hc⟩
      simp only [List.length_cons] at hk
      have hb := hm b List.mem_cons_self
      show qW (f_X1_fill_b43 (nn k) g) _
      unfold f_X1_fill_b43
      rw [if_neg (by rw [show (2000000 : Int32) = nn 2000000 from rfl, nn_le (by omega) (by omega)]; omega), qW_bn]
      refine qW_fr (k_step w wl bs) (fun z e => fr_X7_step _ e) ?_
      rintro ⟨v, g5⟩ hz f5
      have f5 : qfr [(22, 13), (22, 16), (31, 0), (32, 0)] g g5 := f5
      dsimp only at hz ⊢
      rcases hz with ⟨-, e⟩ | ⟨rfl, b2, B2, e, bs2, e15, hs⟩
      · cases e
      · cases e
        have f45 : qfr [(22, 13), (22, 16), (31, 0), (32, 0), (35, 0)] g4 g5 := qfr_tr fg (qfr_sub (qsub_c (by simp) (qsub_c (by simp) (qsub_c (by simp) (qsub_c (by simp) qsub_nil)))) f5)
        have gr5 : GrP (spk s (if nT s = 0 then 0 else srt s (nT s - 1))) 36 g5 := by
          obtain ⟨G, gN, y1, y2, y3, y4, y5, y6, y7, y8, y9⟩ := gr
          exact ⟨G, gN, by rw [(f45.1 34 4 rfl).1]; exact y1, y2, y3, fun g hg => by rw [(f45.1 39 g rfl).1]; exact y4 g hg, y5, y6, fun g h1 h2 => by rw [(f45.1 38 g rfl).2.1]; exact y7 g h1 h2, fun x hx => by rw [(f45.1 38 0 rfl).2.1]; exact y8 x hx, y9⟩
        rw [if_neg (by decide), qW_bv]
        refine qW_fr (k_countLayings (M := fun T => zt (D.map (fitS s 1023)) 0 T) w bs2.2.1 (fun c hc => by rw [(f45.1 37 c rfl).1]; exact c37 c hc) (fun o q ho hq => by rw [(f45.1 36 _ rfl).1]; exact c36 o q ho hq) gr5 e15 hs hb (fun T hT => by rw [(f5.1 35 T rfl).1]; exact hc T hT)) (fun g e => fr_X1_countLayings _ e) ?_
        intro g6 hg6 f6
        have f6 : qfr [(35, 0)] g5 g6 := f6
        rw [qbd_e, nn_add1, qW_some]
        refine ⟨g6, k + 1, D ++ flC s b, rfl, BS_fr bs2 f6 (fun b j h1 h2 => by unfold inW; simp; omega), fun b hb => hm b (List.mem_cons_of_mem _ hb), by omega, by rw [List.append_assoc, ← hD]; rfl, qfr_tr f45 (qfr_sub (qsub_c (by simp) qsub_nil) f6), fun T hT => ?_⟩
        rw [hg6 T hT, List.map_append, zt_app hT (fun k hk => by
          rw [List.mem_map] at hk
          obtain ⟨l, -, rfl⟩ := hk
          exact fitS_lt w), List.countP_map]
        rfl
    · rintro t ⟨g, k, D, rfl, bs, hm, hk, hD, fg, hc⟩
      show qW (f_X1_fill_b43 (nn k) g) _
      unfold f_X1_fill_b43 f_X1_fill_b68
      rw [if_neg (by rw [show (2000000 : Int32) = nn 2000000 from rfl, nn_le (by omega) (by simp at hk; omega)]; simp at hk; omega), qW_bn]
      refine qW_fr (k_step w wl bs) (fun z e => fr_X7_step _ e) ?_
      rintro ⟨v, g5⟩ hz f5
      have f5 : qfr [(22, 13), (22, 16), (31, 0), (32, 0)] g g5 := f5
      dsimp only at hz ⊢
      rcases hz with ⟨rfl, -⟩ | ⟨-, b2, B2, e, -⟩
      · rw [if_pos rfl, qW_up, qW_bv]
        refine qW_fr (k_addSupersets (h := g5) (K := D.map (fitS s 1023)) (fun T hT => by rw [(f5.1 35 T rfl).1]; exact hc T hT)) (fun g e => fr_X1_addSupersets _ e) ?_
        intro g6 hg6 f6
        have f6 : qfr [(35, 0)] g5 g6 := f6
        rw [qW_some]
        have hD : D = allL s L := by simpa using hD
        rw [hD] at hg6
        exact ⟨hg6, by rw [(f6.1 34 0 rfl).1, (f5.1 34 0 rfl).1, (fg.1 34 0 rfl).1]; exact c34⟩
      · cases e
theorem FT_of {s : Sg} {L : Nat → Lw} {h : qa_M} (w : WF s) (ft : FT s L h) {T : Nat} (hT : T < 2 ^ gT s) : h.1 35 T = nn (fitL s L T).length := by
  have l10 := w.t.2
  have : 2 ^ gT s ≤ 2 ^ 10 := Nat.pow_le_pow_right (by omega) l10
  rw [ft T (by omega), zt_fit w hT (fun m hm => ?_)]
  have h10 : m < 10 := by
    rcases Nat.lt_or_ge m 10 with a | a
    · exact a
    · rw [Nat.testBit_lt_two_pow (Nat.lt_of_lt_of_le hT (Nat.pow_le_pow_right (by omega) (by omega)))] at hm; cases hm
  have : ∀ m, m < 10 → (1023 : Nat).testBit m = true := by decide
  exact this m h10
/-! sets of few bits -/
def pc (n : Nat) : Nat := cnt n.testBit 10
theorem pc_le {n : Nat} : pc n ≤ 10 := cnt_le
theorem bc32_v : ∀ n, n < 1024 → (let x0 : Int32 := nn n; let v9 := x0 - ((q_iushr x0 (1 : Int32)) &&& (1431655765 : Int32)); let v23 := (v9 &&& (858993459 : Int32)) + ((q_iushr v9 (2 : Int32)) &&& (858993459 : Int32)); let v33 := (v23 + (q_iushr v23 (4 : Int32))) &&& (252645135 : Int32); let v40 := v33 + (q_iushr v33 (8 : Int32)); let v47 := v40 + (q_iushr v40 (16 : Int32)); v47 &&& (63 : Int32)) = nn (pc n) := by decide +kernel
theorem k_bitCount {n : Nat} {h : qa_M} (hn : n < 1024) : m_J6_bitCount_0f7a4 (nn n) h = some (nn (pc n), h) := by
  rw [← bc32_v n hn]
  rfl
theorem pc_step : ∀ n, n < 1024 → 0 < n → (n &&& (n - 1)) < n ∧ pc (n &&& (n - 1)) + 1 = pc n := by decide +kernel
theorem r_bitsL {h : qa_M} : ∀ (n a : Nat), n < 1024 → a ≤ 100 → f_X12_bits_b4_loop (nn a) (nn n) h = some (nn (a + pc n), h) := by
  have : ∀ (m n a : Nat), n < 1024 → pc n ≤ m → a + m ≤ 1000 → f_X12_bits_b4_loop (nn a) (nn n) h = some (nn (a + pc n), h) := by
    intro m
    induction m with
    | zero =>
      intro n a hn hp ha
      rcases Nat.eq_zero_or_pos n with z | z
      · subst z
        unfold f_X12_bits_b4_loop
        refine qlp_out ?_
        show f_X12_bits_b4 (nn a) (nn 0) h = _
        unfold f_X12_bits_b4
        rw [if_pos (show nn 0 = 0 from rfl), qup_s]
        rfl
      · have := (pc_step n hn z).2
        omega
    | succ m ih =>
      intro n a hn hp ha
      rcases Nat.eq_zero_or_pos n with z | z
      · subst z
        unfold f_X12_bits_b4_loop
        refine qlp_out ?_
        show f_X12_bits_b4 (nn a) (nn 0) h = _
        unfold f_X12_bits_b4
        rw [if_pos (show nn 0 = 0 from rfl), qup_s]
        rfl
      · obtain ⟨p1, p2⟩ := pc_step n hn z
        unfold f_X12_bits_b4_loop
        rw [qlp_in (s2 := (nn (a + 1), nn (n &&& (n - 1)), h))]
        · have := ih (n &&& (n - 1)) (a + 1) (by omega) (by omega) (by omega)
          unfold f_X12_bits_b4_loop at this
          rw [this]
          congr 3
          omega
        · show f_X12_bits_b4 (nn a) (nn n) h = _
          unfold f_X12_bits_b4
          rw [if_neg (by rw [show (0 : Int32) = nn 0 from rfl, nn_eq (by omega) (by omega)]; omega), nn_add1, nn_sub1 (by omega), nn_and]
          rfl
  intro n a hn ha
  exact this 10 n a hn pc_le (by omega)
theorem r_bits {n : Nat} {h : qa_M} (hn : n < 1024) : m_X12_bits (nn n) h = some (nn (pc n), h) := by
  unfold m_X12_bits
  simp only [qbd_e]
  have := r_bitsL (h := h) n 0 hn (by omega)
  rw [Nat.zero_add] at this
  exact this
/-- the first of those with the fewest bits -/
def bst (good : Nat → Bool) : Nat → Option Nat
  | 0 => none
  | k + 1 => match bst good k with
    | none => if good k then some k else none
    | some b => if good k && decide (pc k < pc b) then some k else some b
def fwr (k : Nat) : Option Nat → Bool
  | none => true
  | some b => decide (pc k < pc b)
def oI : Option Nat → Int32
  | none => -2
  | some b => nn b
theorem bst_lt {good : Nat → Bool} : ∀ {k b : Nat}, bst good k = some b → b < k
  | 0, b, h => by cases h
  | k + 1, b, h => by
    unfold bst at h
    split at h
    · split at h
      · cases h; omega
      · cases h
    · rename_i b2 e
      have := bst_lt e
      split at h
      · cases h; omega
      · cases h; omega
theorem bst_no {good : Nat → Bool} {k : Nat} (h : good k = false) : bst good (k + 1) = bst good k := by
  show (match bst good k with
    | none => if good k then some k else none
    | some b => if good k && decide (pc k < pc b) then some k else some b) = _
  rw [h]
  cases bst good k <;> rfl
theorem bst_more {good : Nat → Bool} {k : Nat} (h : ∀ j, k ≤ j → good j = false) : ∀ d, bst good (k + d) = bst good k
  | 0 => rfl
  | d + 1 => by rw [show k + (d + 1) = (k + d) + 1 by omega, bst_no (h _ (by omega)), bst_more h d]
theorem bst_congr {p q : Nat → Bool} : ∀ {n : Nat}, (∀ k, k < n → p k = q k) → bst p n = bst q n
  | 0, _ => rfl
  | n + 1, h => by
    unfold bst
    rw [bst_congr (fun k hk => h k (by omega)), h n (by omega)]
theorem k_isFewer {k : Nat} {o : Option Nat} {h : qa_M} (hk : k < 1024) (ho : ∀ b, o = some b → b < 1024) : m_X1_isFewer (nn k) (oI o) h = some (bi (fwr k o), h) := by
  unfold m_X1_isFewer f_X1_isFewer_b15
  cases o with
  | none => rw [if_pos (show oI none < 0 by decide)]; rfl
  | some b =>
    have hb := ho b rfl
    have p1 := pc_le (n := k)
    have p2 := pc_le (n := b)
    rw [if_neg (show ¬ oI (some b) < 0 from nn_nneg (by omega)), k_bitCount hk, qbn_s, show oI (some b) = nn b from rfl, k_bitCount hb, qbn_s]
    by_cases c : pc k < pc b
    · rw [if_neg (by rw [nn_le (by omega) (by omega)]; omega)]
      show _ = some (bi (decide (pc k < pc b)), h)
      rw [decide_eq_true c]; rfl
    · rw [if_pos (by rw [nn_le (by omega) (by omega)]; omega)]
      show _ = some (bi (decide (pc k < pc b)), h)
      rw [decide_eq_false c]; rfl
theorem andn_0 {a b : Nat} : andn a b = 0 ↔ ∀ j, a.testBit j = true → b.testBit j = true := by
  constructor
  · intro e j hj
    have : (andn a b).testBit j = false := by rw [e, Nat.zero_testBit]
    rw [andn_tb, hj, Bool.true_and] at this
    simpa using this
  · intro h
    apply Nat.eq_of_testBit_eq
    intro j
    rw [andn_tb, Nat.zero_testBit]
    rcases mb2 (a.testBit j) with e | e
    · rw [e, h j e]; rfl
    · rw [e]; rfl
theorem andn_le {a b : Nat} : andn a b ≤ a := by
  have : andn a b &&& a = andn a b := by
    apply Nat.eq_of_testBit_eq
    intro i
    rw [Nat.testBit_and, andn_tb]
    cases a.testBit i <;> cases b.testBit i <;> rfl
  rw [← this]
  exact Nat.and_le_right
theorem sub_le {a b : Nat} (h : andn a b = 0) : a ≤ b := by
  have : a &&& b = a := by
    apply Nat.eq_of_testBit_eq
    intro i
    rw [Nat.testBit_and]
    rcases mb2 (a.testBit i) with e | e
    · rw [e, andn_0.mp h i e]; rfl
    · rw [e]; rfl
  rw [← this]
  exact Nat.and_le_right
theorem xor_sub {a b : Nat} (h : andn a b = 0) : b ^^^ a = andn b a := by
  apply Nat.eq_of_testBit_eq
  intro i
  rw [Nat.testBit_xor, andn_tb]
  rcases mb2 (a.testBit i) with e | e
  · rw [e, andn_0.mp h i e]; rfl
  · rw [e]; cases b.testBit i <;> rfl
theorem nn_xor (a b : Nat) : nn a ^^^ nn b = nn (a ^^^ b) := by
  rw [← Int32.toBitVec_inj, Int32.toBitVec_xor]
  show BitVec.ofNat 32 a ^^^ BitVec.ofNat 32 b = BitVec.ofNat 32 (a ^^^ b)
  rw [BitVec.ofNat_xor]
theorem nn_pos {a : Nat} (ha : a < 2147483648) : (nn a ≤ 0) ↔ a = 0 := by
  rw [show (0 : Int32) = nn 0 from rfl, nn_le ha (by omega)]
  omega
/-- careless: what is good -/
def gdC (s : Sg) (L : Nat → Lw) (S k : Nat) : Bool := decide (andn k S = 0) && decide (0 < (fitL s L (andn S k)).length)
theorem bst_s {good : Nat → Bool} {k : Nat} : bst good (k + 1) = if good k && fwr k (bst good k) then some k else bst good k := by
  show (match bst good k with
    | none => if good k then some k else none
    | some b => if good k && decide (pc k < pc b) then some k else some b) = _
  cases bst good k with
  | none => cases good k <;> rfl
  | some b => rfl
theorem k_leaveOut {s : Sg} {L : Nat → Lw} {S : Nat} {h : qa_M} (w : WF s) (ft : FT s L h) (hS : S < 2 ^ gT s) : m_X1_fewestToLeaveOut (nn S) h = some (oI (bst (gdC s L S) 1024), h) := by
  have l10 := w.t.2
  have hS2 : S < 1024 := by
    have : 2 ^ gT s ≤ 2 ^ 10 := Nat.pow_le_pow_right (by omega) l10
    omega
  have e1 : bst (gdC s L S) 1024 = bst (gdC s L S) (S + 1) := by
    rw [show 1024 = (S + 1) + (1023 - S) by omega]
    refine bst_more (fun j hj => ?_) _
    unfold gdC
    rw [decide_eq_false (fun e => by have := sub_le e; omega)]
    rfl
  rw [e1]
  unfold m_X1_fewestToLeaveOut f_X1_fewestToLeaveOut_b5_loop
  simp only [qbd_e]
  refine qlp_for0 (fun k => (nn S, oI (bst (gdC s L S) k), nn k, h)) (S + 1) ?_ ?_
  · intro k hk
    have fl := fit_len (L := L) (S := andn S k) w
    have al := andn_le (a := S) (b := k)
    show f_X1_fewestToLeaveOut_b5 (nn S) (oI _) (nn k) h = _
    unfold f_X1_fewestToLeaveOut_b5 f_X1_fewestToLeaveOut_b39
    rw [if_neg (by rw [nn_lt (by omega) (by omega)]; omega), nn_adn, nn_xor, bst_s]
    by_cases c : andn k S = 0
    · rw [if_pos (by rw [c]; rfl), xor_sub c]
      simp (disch := first | omega | decide) only [qbn_x, qbv_x, qup_x, qbd_x, qck_nn, qck_ok, nn_cl, nn_add1, lx0, lx1, lx2, lx3, lx4, lx5, lx6, lx7, lx8, lx9, lx10, bi_e0, bi_e1]
      rw [FT_of w ft (by omega), k_isFewer (by omega) (fun b hb => by have := bst_lt hb; omega), qbn_s]
      rw [show gdC s L S k = (decide (andn k S = 0) && decide (0 < (fitL s L (andn S k)).length)) from rfl, decide_eq_true c, Bool.true_and]
      by_cases d : (fitL s L (andn S k)).length = 0
      · rw [if_pos ((nn_pos (by omega)).mpr d), decide_eq_false (by omega)]
        rfl
      · rw [if_neg (fun q => d ((nn_pos (by omega)).mp q)), decide_eq_true (by omega), Bool.true_and]
        cases fwr k (bst (gdC s L S) k) <;> rfl
    · rw [if_neg (by rw [show (0 : Int32) = nn 0 from rfl, nn_eq (by have := andn_le (a := k) (b := S); omega) (by omega)]; exact c)]
      have : gdC s L S k = false := by unfold gdC; rw [decide_eq_false c]; rfl
      rw [this, qbd_e, nn_add1]
      rfl
  · show f_X1_fewestToLeaveOut_b5 (nn S) (oI _) (nn (S + 1)) h = _
    unfold f_X1_fewestToLeaveOut_b5
    rw [if_pos (by rw [nn_lt (by omega) (by omega)]; omega), qup_s]
theorem oI_m2 {o : Option Nat} (h : ∀ b, o = some b → b < 1024) : (oI o = -2) ↔ o = none := by
  cases o with
  | none => simp [oI]
  | some b =>
    have hb := h b rfl
    constructor
    · intro e
      have := congrArg Int32.toInt e
      rw [show oI (some b) = nn b from rfl, nn_toInt (by omega), show (-2 : Int32).toInt = -2 from rfl] at this
      omega
    · intro e; cases e
theorem i10 : ((1 : Int32) = 0) = False := eq_false (by decide)
theorem r_fewer {k : Nat} {o : Option Nat} {h : qa_M} {α : Type} {A B : qa_M → Option α} (hk : k < 1024) (ho : ∀ b, o = some b → b < 1024) :
    (if oI o = (-2 : Int32) then A h else qbn (m_X12_bits (nn k) h) (fun (c67 : Int32) (h67 : qa_M) => qbn (m_X12_bits (oI o) h67) (fun (c71 : Int32) (h71 : qa_M) => if c71 ≤ c67 then B h71 else A h71))) = if fwr k o = true then A h else B h := by
  cases o with
  | none => rw [if_pos (show oI none = -2 from rfl)]; rfl
  | some b =>
    have hb := ho b rfl
    have p1 := pc_le (n := k)
    have p2 := pc_le (n := b)
    rw [if_neg (fun e => by have := (oI_m2 ho).mp e; cases this), r_bits hk, qbn_s, show oI (some b) = nn b from rfl, r_bits hb, qbn_s]
    show _ = if decide (pc k < pc b) = true then A h else B h
    by_cases c : pc k < pc b
    · rw [if_neg (by rw [nn_le (by omega) (by omega)]; omega), decide_eq_true c, if_pos rfl]
    · rw [if_pos (by rw [nn_le (by omega) (by omega)]; omega), decide_eq_false c, if_neg (by decide)]
theorem r_leaveOut {s : Sg} {L : Nat → Lw} {S : Nat} {h : qa_M} (w : WF s) (hf : ∀ T, andn T S = 0 → h.1 157 T = nn (fitL s L T).length) (hS : S < 1024) {N : Nat} (hN : N = 1024) : f_X12_careless_b20_loop (nn S) (-2) (nn 0) h = some (oI (bst (gdC s L S) N), h) := by
  unfold f_X12_careless_b20_loop
  refine qlp_for0 (fun k => (nn S, oI (bst (gdC s L S) k), nn k, h)) N ?_ ?_
  · intro k hk
    have fl := fit_len (L := L) (S := andn S k) w
    have al := andn_le (a := S) (b := k)
    show f_X12_careless_b20 (nn S) (oI _) (nn k) h = _
    unfold f_X12_careless_b20 f_X12_careless_b52 f_X12_careless_b53 f_X12_careless_b77 f_X12_careless_b81 f_X12_careless_b82
    rw [if_neg (by rw [show (1024 : Int32) = nn 1024 from rfl, nn_le (by omega) (by omega)]; omega), nn_adn, nn_adn, bst_s]
    simp only [qbd_x, i10, if_true, if_false]
    rw [nn_add1]
    rw [r_fewer (h := h) (o := bst (gdC s L S) k) (α := (Int32 × Int32 × Int32 × qa_M) ⊕ (Int32 × qa_M)) (A := fun h => some (.inl (nn S, nn k, nn (k + 1), h))) (B := fun h => some (.inl (nn S, oI (bst (gdC s L S) k), nn (k + 1), h))) (show k < 1024 by omega) (fun b hb => by have := bst_lt hb; omega)]
    by_cases c : andn k S = 0
    · rw [if_pos (by rw [c]; rfl), qck_nn (by omega) (by omega), nn_cl (by omega), hf _ (andn_0.mpr (fun j hj => by rw [andn_tb, Bool.and_eq_true] at hj; exact hj.1))]
      rw [show gdC s L S k = (decide (andn k S = 0) && decide (0 < (fitL s L (andn S k)).length)) from rfl, decide_eq_true c, Bool.true_and]
      by_cases d : (fitL s L (andn S k)).length = 0
      · rw [if_pos ((nn_pos (by omega)).mpr d), decide_eq_false (by omega)]
        rfl
      · rw [if_neg (fun q => d ((nn_pos (by omega)).mp q)), decide_eq_true (by omega), Bool.true_and]
        cases fwr k (bst (gdC s L S) k) <;> rfl
    · rw [if_neg (by rw [show (0 : Int32) = nn 0 from rfl, nn_eq (by have := andn_le (a := k) (b := S); omega) (by omega)]; exact c)]
      have : gdC s L S k = false := by unfold gdC; rw [decide_eq_false c]; rfl
      rw [this]
      rfl
  · show f_X12_careless_b20 (nn S) (oI (bst (gdC s L S) N)) (nn N) h = _
    unfold f_X12_careless_b20
    rw [if_pos (by rw [hN]; decide), qup_s]
