/-! COUNTING THINGS OF A LAYING -/
def cP (P : Nat → Nat → Bool) : List Nat → Nat
  | [] => 0
  | q :: st => cP P st + (if P st.length q then 1 else 0)
theorem cP_le {P : Nat → Nat → Bool} : ∀ {l : List Nat}, cP P l ≤ l.length
  | [] => Nat.le_refl _
  | q :: st => by
    have := cP_le (P := P) (l := st)
    show cP P st + _ ≤ st.length + 1
    split <;> omega
theorem cP_stk {P : Nat → Nat → Bool} {r : Nat → Int32} {l : List Nat} (h : stk r l) (h36 : lt36 l) : cnt (fun o => P o (cN (r o))) l.length = cP P l := cnt_stk (f := cP P) rfl (fun _ _ => rfl) h h36
theorem cnt_add {p r : Nat → Bool} {a c : Nat} : ∀ {n : Nat}, cnt (fun q => p q && decide (a + (if r q then 1 else 0) = c)) n = (if c = a then cnt p n - cnt (fun q => p q && r q) n else if c = a + 1 then cnt (fun q => p q && r q) n else 0) ∧ cnt (fun q => p q && r q) n ≤ cnt p n
  | 0 => by simp [cnt]
  | n + 1 => by
    obtain ⟨ih, il⟩ := cnt_add (p := p) (r := r) (a := a) (c := c) (n := n)
    have e1 : cnt (fun q => p q && decide (a + (if r q then 1 else 0) = c)) (n + 1) = cnt (fun q => p q && decide (a + (if r q then 1 else 0) = c)) n + (if (p n && decide (a + (if r n then 1 else 0) = c)) = true then 1 else 0) := rfl
    have e2 : cnt (fun q => p q && r q) (n + 1) = cnt (fun q => p q && r q) n + (if (p n && r n) = true then 1 else 0) := rfl
    have e3 : cnt p (n + 1) = cnt p n + (if p n = true then 1 else 0) := rfl
    rw [e1, e2, e3, ih]
    clear e1 e2 e3 ih
    revert il
    generalize cnt (fun q => p q && r q) n = x
    generalize cnt p n = y
    intro il
    by_cases c1 : c = a
    · subst c1
      cases p n <;> cases r n <;> simp <;> omega
    · have c1' : ¬ a = c := fun q => c1 q.symm
      by_cases c2 : c = a + 1
      · subst c2
        cases p n <;> cases r n <;> simp <;> omega
      · have c2' : ¬ a + 1 = c := fun q => c2 q.symm
        cases p n <;> cases r n <;> simp [c1, c2, c1', c2'] <;> omega
theorem bits_cnt {m : Int64} {f : Nat → Bool} : (bits m).countP f = cnt (fun q => tb m q && f q) 36 := by
  unfold bits
  rw [List.countP_filter, cnt_range]
  apply cnt_congr
  intro k _
  rw [Bool.and_comm]
theorem flat_cnt {b : List Nat × Int64} {f : List Nat → Bool} : (flat b).countP f = cnt (fun q => tb b.2 q && f (q :: b.1)) 36 := by
  unfold flat
  rw [List.countP_map, bits_cnt]
  rfl
/-- the class's tally of a set: how many layings have so many things of a sort on some squares -/
def tlP (s : Sg) (o : Nat) (sq : Int64) (t q : Nat) : Bool := decide (srt s t = o) && tb sq q
def tlC (s : Sg) (o : Nat) (sq : Int64) (F : List (List Nat)) (c : Nat) : Nat := F.countP (fun l => decide (cP (tlP s o sq) l = c))
theorem k_lastSort {s : Sg} {L : Nat → Lw} {h : qa_M} (w : WF s) (sp : SP s L h) : m_X7_lastSort h = some (nn (if nT s = 0 then 0 else srt s (nT s - 1)), h) := by
  have hn := w.n
  unfold m_X7_lastSort
  rw [sp.1]
  by_cases c : nT s = 0
  · rw [if_pos (by rw [c]; rfl), if_pos c]; rfl
  · rw [if_neg (by rw [show (0 : Int32) = nn 0 from rfl, nn_eq (by omega) (by omega)]; exact c), if_neg c, nn_sub1 (by omega), qck_nn (by omega) (by omega), nn_cl (by omega), sp.2.1 _ (by omega)]
theorem bc_0 {x : Int64} (h : ∀ k, tb x k = false) : bc x = 0 := by
  unfold bc
  rw [cnt_range, cnt_congr (q := fun _ => false) (fun k _ => h k)]
  have : ∀ n, cnt (fun _ => false) n = 0 := by
    intro n
    induction n with
    | zero => rfl
    | succ n ih => rw [cnt_f rfl, ih]
  exact this 64
theorem tb_p62 : ∀ k, k < 64 → tb 4611686018427387904 k = decide (k = 62) := by decide +kernel
/-- things on squares, all but the last -/
theorem k_tallyIn {s : Sg} {L : Nat → Lw} {h : qa_M} (w : WF s) (sp : SP s L h) {st : List Nat} (hs : stk (h.1 31) st) (h36 : lt36 st) (hl : st.length = nT s - 1) {o : Nat} (ho : o < 4) {sq : Int64} {x5 : Int32} {P : ((Int32 × Int64 × Int32 × qa_M) ⊕ qa_M) → Prop} (hP : qW (f_X7_tally_b83 (nn o) sq x5 (nn (cP (tlP s o sq) st)) h) P) : qW (f_X7_tally_b36_loop (nn o) sq x5 0 0 h) P := by
  have hn := w.n
  have l4 := w.s.2
  unfold f_X7_tally_b36_loop
  refine qW_for st.length (fun k t => t = (nn o, sq, x5, nn (cnt (fun u => tlP s o sq u (cN (h.1 31 u))) k), nn k, h)) ?_ ?_ (Nat.zero_le _) rfl
  · rintro k t hk rfl
    obtain ⟨a, ha, ea⟩ := stk_at hs h36 k hk
    have sk := srt_lt (s := s) (show k < nT s by omega)
    show qW (f_X7_tally_b36 (nn o) sq x5 _ (nn k) h) _
    unfold f_X7_tally_b36 f_X7_tally_b77
    rw [sp.1, nn_sub1 (by omega), if_neg (fun q => by rw [nn_le (by omega) (by omega)] at q; omega)]
    simp (disch := first | omega | decide) only [qbn_x, qbv_x, qup_x, qbd_x, qck_nn, qck_ok, nn_cl, nn_add1, lx0, lx1, lx2, lx3, lx4, lx5, lx6, lx7, lx8, lx9, lx10, bi_e0, bi_e1]
    rw [sp.2.1 k (by omega), ea]
    have hi : tlP s o sq k (cN (h.1 31 k)) = (decide (srt s k = o) && tb sq a) := by
      unfold tlP
      rw [ea, cN_nn (by omega)]
    by_cases c : srt s k = o
    · rw [if_pos (by rw [c])]
      rw [decide_eq_true c, Bool.true_and] at hi
      rcases mb2 (tb sq a) with e | e
      · rw [if_neg (by rw [tb_g0 (by omega), e]; decide), qW_some]
        show (_, _, _, _, _, _) = _
        rw [cnt_t (p := fun u => tlP s o sq u (cN (h.1 31 u))) (by rw [hi, e])]
      · rw [if_pos (by rw [tb_g0 (by omega), e]), qW_some]
        show (_, _, _, _, _, _) = _
        rw [cnt_f (p := fun u => tlP s o sq u (cN (h.1 31 u))) (by rw [hi, e])]
    · rw [if_neg (by rw [nn_eq (by omega) (by omega)]; exact c), qW_some]
      show (_, _, _, _, _, _) = _
      rw [cnt_f (p := fun u => tlP s o sq u (cN (h.1 31 u))) (by rw [hi, decide_eq_false c]; rfl)]
  · rintro t rfl
    show qW (f_X7_tally_b36 (nn o) sq x5 _ (nn st.length) h) _
    unfold f_X7_tally_b36
    rw [sp.1]
    have : nn (nT s) - 1 ≤ nn st.length := by
      rw [Int32.le_iff_toInt_le, nn_m1 (by omega), nn_toInt (by omega)]
      omega
    rw [if_pos this, qW_up, cP_stk hs h36]
    exact hP
theorem k_tally {s : Sg} {L : Nat → Lw} {S : Nat} {h : qa_M} (w : WF s) (wl : ∀ k, k + 1 = gL s → WL (L k)) (nt : NearT h) (sp : SP s L h) (r : RelS 3 s h) (hS : S < 2 ^ gT s) {o : Nat} (ho : o < 4) {sq : Int64} (hq : ∀ k, 36 ≤ k → tb sq k = false) :
    qW (m_X7_tally (nn S) (nn o) sq h) (fun g => ∀ c, c < 5 → g.1 33 c = nn (tlC s o sq (fitL s L S) c)) := by
  have hn := w.n
  have l4 := w.s.2
  unfold m_X7_tally
  rw [qW_bv]
  refine qW_fr (k_fill (h := h) (a := 33) (n := 5) (v := 0) (fun g => wl_33 g) (by omega)) (fun g e => fr_J7_fill_53178 _ _ _ e) ?_
  intro g0 z0 f0
  have f0 : qfr [(33, 0)] h g0 := f0
  rw [qW_bv]
  refine qW_fr (k_startB w wl (Near_fr nt f0 (fun j => rfl)) (SP_fr sp f0 rfl (fun b j h1 h2 => by unfold inW; simp; omega)) (RelS_fr r f0 (fun c j h1 h2 => by unfold inW; simp; omega)) hS) (fun g e => fr_X7_start _ _ e) ?_
  intro g1 bs f1
  have f1 : qfr w_X7_start g0 g1 := f1
  rw [qbd_e]
  unfold f_X7_tally_b16_loop
  have bl := bat_len (L := L) (S := S) w
  refine qW_lst (fun rem t => ∃ g k D, t = (nn o, sq, nn k, g) ∧ BS s L S rem g ∧ (∀ b, b ∈ rem → b ∈ batC s L S) ∧ k + rem.length ≤ 46656 ∧ D ++ rem.flatMap (flC s) = fitL s L S ∧ ∀ c, c < 5 → g.1 33 c = nn (tlC s o sq D c)) ?_ ?_ _ _ ⟨g1, 0, [], rfl, bs, fun _ h => h, by omega, by rw [bat_flat w]; rfl, fun c hc => by rw [(f1.1 33 c rfl).1, z0 c hc]; rfl⟩
  · rintro b rem t ⟨g, k, D, rfl, bs, hm, hk, hD, hc⟩
    simp only [List.length_cons] at hk
    have hb := hm b List.mem_cons_self
    show qW (f_X7_tally_b16 (nn o) sq (nn k) g) _
    unfold f_X7_tally_b16
    rw [if_neg (by rw [show (2000000 : Int32) = nn 2000000 from rfl, nn_le (by omega) (by omega)]; omega), qW_bn]
    refine qW_fr (k_step w wl bs) (fun z e => fr_X7_step _ e) ?_
    rintro ⟨v, g2⟩ hz f2
    have f2 : qfr [(22, 13), (22, 16), (31, 0), (32, 0)] g g2 := f2
    dsimp only at hz ⊢
    rcases hz with ⟨-, e⟩ | ⟨rfl, b2, B2, e, bs2, e15, hs⟩
    · cases e
    · cases e
      rw [if_neg (by decide), qbd_e, qbd_e]
      have sp2 := bs2.2.1
      have h36 : lt36 b.1 := by
        rcases bat_mem hb with ⟨-, rfl⟩ | ⟨-, e, -⟩
        · trivial
        · exact good_lt e
      have hlen : b.1.length = nT s - 1 := by
        rcases bat_mem hb with ⟨c, rfl⟩ | ⟨-, -, e, -⟩
        · rw [c]; rfl
        · omega
      refine k_tallyIn w sp2 hs h36 hlen ho ?_
      unfold f_X7_tally_b83
      rw [k_lastSort w sp2, qbn_s, e15]
      obtain ⟨A, hA⟩ : ∃ A, A = cP (tlP s o sq) b.1 := ⟨_, rfl⟩
      have hA3 : A ≤ 3 := by have := cP_le (P := tlP s o sq) (l := b.1); omega
      rw [← hA]
      have e33 : ∀ c, c < 5 → g2.1 33 c = nn (tlC s o sq D c) := fun c h5 => by rw [(f2.1 33 c rfl).1]; exact hc c h5
      have key : ∀ M : Nat, M ≤ bc b.2 → (∀ c, (flC s b).countP (fun l => decide (cP (tlP s o sq) l = c)) = (if c = A then bc b.2 - M else if c = A + 1 then M else 0)) → qW (f_X7_tally_b104 (nn o) sq (nn k) (nn A) (nn M) g2) (Sum.elim (fun t => ∃ g k D, t = (nn o, sq, nn k, g) ∧ BS s L S rem g ∧ (∀ b, b ∈ rem → b ∈ batC s L S) ∧ k + rem.length ≤ 46656 ∧ D ++ rem.flatMap (flC s) = fitL s L S ∧ ∀ c, c < 5 → g.1 33 c = nn (tlC s o sq D c)) (fun g => ∀ c, c < 5 → g.1 33 c = nn (tlC s o sq (fitL s L S) c))) := by
        intro M hM hcount
        unfold f_X7_tally_b104
        rw [e15, bc_spec]
        simp (disch := first | omega | decide) only [qbn_x, qbv_x, qup_x, qbd_x, qck_nn, qck_ok, nn_cl, nn_add1, lx0, lx1, lx2, lx3, lx4, lx5, lx6, lx7, lx8, lx9, lx10, bi_e0, bi_e1]
        rw [nn_sub hM, e33 A (by omega), nn_add, wI_ne (show ¬ ((33 : Nat) = 33 ∧ A + 1 = A) by omega), e33 (A + 1) (by omega), nn_add, qW_some]
        obtain ⟨G, hG⟩ : ∃ G, G = qw_I (qw_I g2 33 A (nn (tlC s o sq D A + (bc b.2 - M)))) 33 (A + 1) (nn (tlC s o sq D (A + 1) + M)) := ⟨_, rfl⟩
        rw [← hG]
        have fG : qfr [(33, 0)] g2 G := by rw [hG]; exact qfr_I0 rfl (by simp) (qfr_I0 (a := 33) rfl (by simp) qfr_rf)
        refine ⟨G, k + 1, D ++ flC s b, rfl, ?_, fun b hb => hm b (List.mem_cons_of_mem _ hb), by omega, ?_, fun c h5 => ?_⟩
        · obtain ⟨a1, a2, a3, a4⟩ := bs2
          refine ⟨Near_fr a1 fG (fun j => rfl), SP_fr a2 fG rfl (fun b j h1 h2 => by unfold inW; simp; omega), NSp_fr a3 fG rfl (fun b j h1 h2 => by unfold inW; simp; omega), ?_⟩
          have q1 : G.1 22 12 = g2.1 22 12 := (fG.1 22 12 rfl).1
          have q2 : G.1 31 = g2.1 31 := by funext j; exact (fG.1 31 j rfl).1
          have q3 : G.2.1 32 = g2.2.1 32 := by funext j; exact (fG.1 32 j rfl).2.1
          rw [q1, q2, q3]
          exact a4
        · rw [List.append_assoc, ← hD]
          rfl
        · have : tlC s o sq (D ++ flC s b) c = tlC s o sq D c + (flC s b).countP (fun l => decide (cP (tlP s o sq) l = c)) := List.countP_append
          rw [this, hcount c, hG]
          by_cases c1 : c = A + 1
          · subst c1
            rw [wI_at, if_neg (by omega), if_pos rfl]
          · rw [wI_ne (fun q => c1 q.2)]
            by_cases c2 : c = A
            · subst c2
              rw [wI_at, if_pos rfl]
            · rw [wI_ne (fun q => c2 q.2), e33 c h5, if_neg c2, if_neg c1]
              rfl
      rcases bat_mem hb with ⟨c0, e0⟩ | ⟨c0, g0', l0, m0, -⟩
      · have hA0 : A = 0 := by rw [hA, e0]; rfl
        have hfl : ∀ c, (flC s b).countP (fun l => decide (cP (tlP s o sq) l = c)) = (if c = A then bc b.2 - 0 else if c = A + 1 then 0 else 0) := by
          intro c
          have b1 : bc b.2 = 1 := by rw [e0]; decide +kernel
          unfold flC
          rw [if_pos c0, b1, hA0]
          show List.countP _ [[]] = _
          by_cases d : c = 0
          · subst d; rfl
          · rw [if_neg d]
            have : decide (cP (tlP s o sq) [] = c) = false := decide_eq_false (fun q => d q.symm)
            rw [List.countP_cons_of_neg (by rw [this]; decide)]
            simp
        have b0 : bc (b.2 &&& sq) = 0 := by
          apply bc_0
          intro k
          rw [tb_and, e0]
          rcases Nat.lt_or_ge k 36 with a | a
          · rw [tb_p62 k (by omega), decide_eq_false (by omega)]; rfl
          · rw [hq k a, Bool.and_false]
        by_cases c1 : (if nT s = 0 then 0 else srt s (nT s - 1)) = o
        · rw [if_pos (by rw [c1]), bc_spec, qbn_s, b0]
          exact key 0 (by omega) hfl
        · rw [if_neg (by rw [nn_eq (by rw [if_pos c0]; omega) (by omega)]; exact c1)]
          exact key 0 (by omega) hfl
      · have sl := srt_lt (s := s) (show nT s - 1 < nT s by omega)
        rw [if_neg (show ¬ nT s = 0 by omega)]
        have hb36 : ∀ k, 36 ≤ k → tb b.2 k = false := fun k hk => by rw [m0]; exact msk_hi hk
        have hfl : ∀ c, (flC s b).countP (fun l => decide (cP (tlP s o sq) l = c)) = (if c = A then bc b.2 - cnt (fun q => tb b.2 q && tlP s o sq b.1.length q) 36 else if c = A + 1 then cnt (fun q => tb b.2 q && tlP s o sq b.1.length q) 36 else 0) := by
          intro c
          unfold flC
          rw [if_neg (show ¬ nT s = 0 by omega), flat_cnt, bc_cnt hb36]
          have := (cnt_add (p := tb b.2) (r := tlP s o sq b.1.length) (a := A) (c := c) (n := 36)).1
          rw [← this]
          apply cnt_congr
          intro q _
          rw [hA]
          rfl
        have hMl : cnt (fun q => tb b.2 q && tlP s o sq b.1.length q) 36 ≤ bc b.2 := by
          rw [bc_cnt hb36]
          exact (cnt_add (p := tb b.2) (r := tlP s o sq b.1.length) (a := A) (c := 0) (n := 36)).2
        by_cases c1 : srt s (nT s - 1) = o
        · rw [if_pos (by rw [c1]), bc_spec, qbn_s]
          have : bc (b.2 &&& sq) = cnt (fun q => tb b.2 q && tlP s o sq b.1.length q) 36 := by
            rw [bc_cnt (fun k hk => by rw [tb_and, hb36 k hk]; rfl)]
            apply cnt_congr
            intro q _
            rw [tb_and]
            unfold tlP
            rw [hlen, decide_eq_true c1, Bool.true_and]
          rw [this]
          exact key _ hMl hfl
        · rw [if_neg (by rw [nn_eq (by omega) (by omega)]; exact c1)]
          have : cnt (fun q => tb b.2 q && tlP s o sq b.1.length q) 36 = 0 := by
            rw [cnt_congr (q := fun _ => false) (fun q _ => by unfold tlP; rw [hlen, decide_eq_false c1]; simp)]
            decide
          rw [this] at hfl
          exact key 0 (by omega) hfl
  · rintro t ⟨g, k, D, rfl, bs, hm, hk, hD, hc⟩
    show qW (f_X7_tally_b16 (nn o) sq (nn k) g) _
    unfold f_X7_tally_b16
    rw [if_neg (by rw [show (2000000 : Int32) = nn 2000000 from rfl, nn_le (by omega) (by simp at hk; omega)]; simp at hk; omega), qW_bn]
    refine qW_fr (k_step w wl bs) (fun z e => fr_X7_step _ e) ?_
    rintro ⟨v, g2⟩ hz f2
    have f2 : qfr [(22, 13), (22, 16), (31, 0), (32, 0)] g g2 := f2
    dsimp only at hz ⊢
    rcases hz with ⟨rfl, -⟩ | ⟨-, b2, B2, e, -⟩
    · rw [if_pos rfl, qup_s, qW_some]
      intro c h5
      have hD : D = fitL s L S := by simpa using hD
      rw [← hD, (f2.1 33 c rfl).1]
      exact hc c h5
    · cases e
