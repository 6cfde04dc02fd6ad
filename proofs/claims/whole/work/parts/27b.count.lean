/-! A THING OF A LAYING -/
def thg (l : List Nat) (k : Nat) : Nat := l.getD (l.length - 1 - k) 0
theorem thg_stk {r : Nat → Int32} : ∀ {l : List Nat} {k : Nat}, stk r l → k < l.length → r k = nn (thg l k)
  | [], k, _, h => by simp at h
  | q :: st, k, h, hk => by
    by_cases c : k = st.length
    · subst c
      rw [h.1]
      unfold thg
      simp
    · have hlt : k < st.length := by simp at hk; omega
      rw [thg_stk h.2 hlt]
      unfold thg
      rw [show (q :: st).length - 1 - k = (st.length - 1 - k) + 1 by simp; omega]
      simp
theorem thg_cons {q : Nat} {st : List Nat} {k : Nat} (h : k < st.length) : thg (q :: st) k = thg st k := by
  unfold thg
  rw [show (q :: st).length - 1 - k = (st.length - 1 - k) + 1 by simp; omega]
  simp
theorem thg_last {q : Nat} {st : List Nat} : thg (q :: st) st.length = q := by
  unfold thg
  simp
/-- the square at a place among a long's bits -/
theorem bits_low {x : Int64} {j : Nat} (h36 : j < 36) (hj : tb x j = true) (hl : ∀ k, k < j → tb x k = false) : bits x = j :: bits (x &&& (x - 1)) := by
  have e1 : bits x = cand (fun _ => tb x) [] 0 := rfl
  have e2 : bits (x &&& (x - 1)) = cand (fun _ => tb (x &&& (x - 1))) [] 0 := rfl
  rw [e1, e2, cand_skip (ok := fun _ => tb x) j 0 (fun k _ hk => hl k (by omega)), Nat.zero_add, cand_t (ok := fun _ => tb x) h36 hj]
  rw [cand_skip (ok := fun _ => tb (x &&& (x - 1))) (j + 1) 0 (fun k _ hk => by
    rw [tb_next hj hl]
    by_cases c : k = j
    · subst c; simp
    · rw [hl k (by omega)]; rfl), Nat.zero_add]
  congr 1
  unfold cand
  apply List.filter_congr
  intro q hq
  have : j + 1 ≤ q := by
    obtain ⟨i, hi, e⟩ := List.mem_iff_getElem.mp hq
    simp at e
    omega
  show tb x q = tb (x &&& (x - 1)) q
  rw [tb_next hj hl, decide_eq_true (by omega), Bool.and_true]
theorem k_nth {h : qa_M} : ∀ (n : Nat) (x : Int64) (d : Nat), (∀ k, 36 ≤ k → tb x k = false) → (hn : n < (bits x).length) → d + n < 2147483648 → f_X7_nth_b5_loop (nn (d + n)) x (nn d) h = some (nn ((bits x)[n]), h)
  | 0, x, d, hx, hn, hd => by
    unfold f_X7_nth_b5_loop
    refine qlp_out ?_
    show f_X7_nth_b5 (nn d) x (nn d) h = _
    unfold f_X7_nth_b5 f_X7_nth_b23
    rw [if_pos ((nn_le (by omega) (by omega)).mpr (by omega))]
    have hne : x ≠ 0 := by
      rintro rfl
      rw [bits_0] at hn
      simp at hn
    obtain ⟨j, j1, j2, j3⟩ := tb_low hne
    have j36 : j < 36 := by
      rcases Nat.lt_or_ge j 36 with a | a
      · exact a
      · rw [hx j a] at j2; cases j2
    rw [k_lowest j2 j3, qbn_s, qup_s]
    congr 3
    simp only [bits_low j36 j2 j3]
    rfl
  | n + 1, x, d, hx, hn, hd => by
    have hne : x ≠ 0 := by
      rintro rfl
      rw [bits_0] at hn
      simp at hn
    obtain ⟨j, j1, j2, j3⟩ := tb_low hne
    have j36 : j < 36 := by
      rcases Nat.lt_or_ge j 36 with a | a
      · exact a
      · rw [hx j a] at j2; cases j2
    have hb := bits_low j36 j2 j3
    have hn2 : n < (bits (x &&& (x - 1))).length := by
      rw [hb] at hn
      simpa using hn
    have ih := k_nth (h := h) n (x &&& (x - 1)) (d + 1) (fun k hk => by rw [tb_and, hx k hk]; rfl) hn2 (by omega)
    unfold f_X7_nth_b5_loop at ih ⊢
    rw [qlp_in (s2 := (nn (d + (n + 1)), x &&& (x - 1), nn (d + 1), h))]
    · rw [show d + (n + 1) = d + 1 + n by omega, ih]
      congr 3
      simp only [hb]
      rfl
    · show f_X7_nth_b5 (nn (d + (n + 1))) x (nn d) h = _
      unfold f_X7_nth_b5
      rw [if_neg (fun q => by rw [nn_le (by omega) (by omega)] at q; omega), qbd_e, qbd_e, nn_add1]
/-- the answer of laying -/
def layA (s : Sg) (F : List (List Nat)) (p k : Nat) : Int32 := if k < nT s then (match F[p]? with
  | some l => nn (thg l k)
  | none => -2) else -2
theorem k_squareOf {s : Sg} {L : Nat → Lw} {S : Nat} {h : qa_M} (w : WF s) (wl : ∀ k, k + 1 = gL s → WL (L k)) (nt : NearT h) (sp : SP s L h) (r : RelS 3 s h) (hS : S < 2 ^ gT s) {p k : Nat} (hp : p < 2147483648) (hk : k < 4) :
    qW (m_X7_squareOf (nn S) (nn p) (nn k) h) (fun z => z.1 = layA s (fitL s L S) p k) := by
  have hn := w.n
  unfold m_X7_squareOf layA
  rw [sp.1]
  by_cases ck : k < nT s
  · rw [if_pos (by rw [nn_lt (by omega) (by omega)]; exact ck), if_pos ck, qbd_e, qW_bv]
    refine qW_mono (k_startB w wl nt sp r hS) ?_
    intro g bs
    rw [qbd_e]
    unfold f_X7_squareOf_b22_loop
    have bl := bat_len (L := L) (S := S) w
    refine qW_lst (fun rem t => ∃ g p2 j, t = (nn k, nn p2, nn j, g) ∧ BS s L S rem g ∧ (∀ b, b ∈ rem → b ∈ batC s L S) ∧ j + rem.length ≤ 46656 ∧ p2 ≤ p ∧ (rem.flatMap (flC s))[p2]? = (fitL s L S)[p]?) ?_ ?_ _ _ ⟨g, p, 0, rfl, bs, fun _ h => h, by omega, Nat.le_refl _, by rw [bat_flat w]⟩
    · rintro b rem t ⟨g, p2, j, rfl, bs, hm, hj, hp2, he⟩
      simp only [List.length_cons] at hj
      have hb := hm b List.mem_cons_self
      show qW (f_X7_squareOf_b22 (nn k) (nn p2) (nn j) g) _
      unfold f_X7_squareOf_b22
      rw [if_neg (by rw [show (2000000 : Int32) = nn 2000000 from rfl, nn_le (by omega) (by omega)]; omega), qW_bn]
      refine qW_mono (k_step w wl bs) ?_
      rintro ⟨v, g2⟩ hz
      dsimp only at hz ⊢
      rcases hz with ⟨-, e⟩ | ⟨rfl, b2, B2, e, bs2, e15, hs⟩
      · cases e
      · cases e
        have hbl : bc b.2 ≤ 64 := by
          unfold bc
          exact Nat.le_trans List.countP_le_length (by simp)
        rw [if_neg (by decide), e15, bc_spec, qbn_s, qbd_e]
        rw [List.flatMap_cons] at he
        by_cases c : bc b.2 ≤ p2
        · rw [if_pos ((nn_le (by omega) (by omega)).mpr c), nn_sub c, qbd_e, qbd_e, nn_add1, qW_some]
          refine ⟨g2, _, _, rfl, bs2, fun b hb => hm b (List.mem_cons_of_mem _ hb), by omega, by omega, ?_⟩
          rw [← he, List.getElem?_append_right (by rw [flC_len hb]; exact c), flC_len hb]
        · rw [if_neg (fun q => c ((nn_le (by omega) (by omega)).mp q)), qW_up]
          rcases bat_mem hb with ⟨c0, -⟩ | ⟨c0, g0, l0, m0, -⟩
          · omega
          · have hb36 : ∀ k, 36 ≤ k → tb b.2 k = false := fun k hk => by rw [m0]; exact msk_hi hk
            have hlb : p2 < (bits b.2).length := by rw [bits_len hb36]; omega
            have hfl : (flC s b)[p2]? = some ((bits b.2)[p2] :: b.1) := by
              unfold flC flat
              rw [if_neg (by omega), List.getElem?_map, List.getElem?_eq_getElem hlb]
              rfl
            rw [List.getElem?_append_left (by rw [flC_len hb]; omega), hfl] at he
            unfold f_X7_squareOf_b52
            rw [bs2.2.1.1, nn_sub1 (by omega)]
            by_cases cl : nT s - 1 ≤ k
            · rw [if_pos ((nn_le (by omega) (by omega)).mpr cl), e15]
              unfold m_X7_nth
              have kn := k_nth (h := g2) p2 b.2 0 hb36 hlb (by omega)
              rw [Nat.zero_add] at kn
              rw [qbd_e, qbd_e, show (0 : Int32) = nn 0 from rfl, kn, qbn_s, qW_some]
              show nn _ = _
              rw [← he]
              show nn _ = nn (thg _ k)
              rw [show k = b.1.length by omega, thg_last]
            · rw [if_neg (fun q => cl ((nn_le (by omega) (by omega)).mp q)), qck_nn (by omega) (by omega), nn_cl (by omega), qW_some]
              show g2.1 31 k = _
              rw [← he, thg_stk hs (by omega)]
              show nn _ = nn (thg _ k)
              rw [thg_cons (by omega)]
    · rintro t ⟨g, p2, j, rfl, bs, hm, hj, hp2, he⟩
      show qW (f_X7_squareOf_b22 (nn k) (nn p2) (nn j) g) _
      unfold f_X7_squareOf_b22
      rw [if_neg (by rw [show (2000000 : Int32) = nn 2000000 from rfl, nn_le (by omega) (by simp at hj; omega)]; simp at hj; omega), qW_bn]
      refine qW_mono (k_step w wl bs) ?_
      rintro ⟨v, g2⟩ hz
      dsimp only at hz ⊢
      rcases hz with ⟨rfl, -⟩ | ⟨-, b2, B2, e, -⟩
      · rw [if_pos rfl, qup_s, qW_some]
        show (-2 : Int32) = _
        rw [← he]
        rfl
      · cases e
  · rw [if_neg (by rw [nn_lt (by omega) (by omega)]; exact ck), if_neg ck, qW_some]
theorem fit_len {s : Sg} {L : Nat → Lw} {S : Nat} (w : WF s) : (fitL s L S).length ≤ 1679616 := by
  have hn := w.n
  unfold fitL allL
  refine Nat.le_trans (List.length_filter_le _ _) (Nat.le_trans lays_len ?_)
  have : 36 ^ nT s ≤ 36 ^ 4 := Nat.pow_le_pow_right (by omega) hn
  omega
theorem fit_mem {s : Sg} {L : Nat → Lw} {S : Nat} {l : List Nat} (h : l ∈ fitL s L S) : l.length = nT s ∧ good (okA s L) l := by
  unfold fitL allL at h
  rw [List.mem_filter] at h
  exact ⟨by rw [lays_mem h.1]; simp, lays_good (st := []) trivial h.1⟩
/-! the reference's loops over the layings that fit -/
theorem r_layLoop {s : Sg} {L : Nat → Lw} {S : Nat} {h : qa_M} (w : WF s) (wl : ∀ k, k + 1 = gL s → WL (L k)) (hs : sg h = s) (hS : S < 2 ^ gT s) (gs : GyS s L S (fitL s L S) h) {p k : Nat} (hp : p < 2147483648) (hk : k < nT s) :
    qW (f_X12_laying_b44_loop (nn S) (nn p) (nn k) (nn 0) h) (fun z => z.1 = layA s (fitL s L S) p k) := by
  have hn := w.n
  have fl := fit_len (L := L) (S := S) w
  unfold f_X12_laying_b44_loop
  refine qW_lst (fun rem t => ∃ g j, t = (nn S, nn p, nn k, nn j, g) ∧ GyS s L S rem g ∧ sg g = s ∧ j ≤ p ∧ j + rem.length = (fitL s L S).length ∧ rem[p - j]? = (fitL s L S)[p]?) ?_ ?_ _ _ ⟨h, 0, rfl, gs, hs, by omega, by omega, rfl⟩
  · rintro l rem t ⟨g, j, rfl, gs, hs, hj, hl, he⟩
    simp only [List.length_cons] at hl
    show qW (f_X12_laying_b44 (nn S) (nn p) (nn k) (nn j) g) _
    unfold f_X12_laying_b44 f_X12_laying_b58
    rw [qW_bn]
    refine qW_fr (r_goesTo w wl hs hS gs) (fun z e => fr_X12_goesTo _ _ e) ?_
    rintro ⟨v, g2⟩ hz fg
    have fg : qfr [(119, 50), (151, 0)] g g2 := fg
    dsimp only at hz ⊢
    rcases hz with ⟨-, e⟩ | ⟨rfl, l2, F2, e, q1, q2, q3, q4⟩
    · cases e
    · cases e
      rw [if_neg (by decide)]
      by_cases c : j = p
      · subst c
        rw [if_pos rfl, qck_nn (by omega) (by omega), nn_cl (by omega), qup_s, qW_some]
        show g2.1 151 k = _
        unfold layA
        rw [if_pos hk, ← he, Nat.sub_self]
        exact thg_stk q3 (by omega)
      · rw [if_neg (by rw [nn_eq (by omega) (by omega)]; exact c), qbd_e, nn_add1, qW_some]
        refine ⟨g2, j + 1, rfl, q1, by rw [sg_ly fg, hs], by omega, by omega, ?_⟩
        rw [← he, show p - j = (p - (j + 1)) + 1 by omega, List.getElem?_cons_succ]
  · rintro t ⟨g, j, rfl, gs, hs, hj, hl, he⟩
    show qW (f_X12_laying_b44 (nn S) (nn p) (nn k) (nn j) g) _
    unfold f_X12_laying_b44
    rw [qW_bn]
    refine qW_mono (r_goesTo w wl hs hS gs) ?_
    rintro ⟨v, g2⟩ hz
    dsimp only at hz ⊢
    rcases hz with ⟨rfl, -⟩ | ⟨-, l2, F2, e, -⟩
    · rw [if_pos rfl, qup_s, qW_some]
      show (-2 : Int32) = _
      unfold layA
      rw [if_pos hk, ← he]
      rfl
    · cases e
/-- does a thing of a sort stand on a square -/
def stdP (s : Sg) (q o t x : Nat) : Bool := decide (x = q) && decide (srt s t = o)
theorem r_stoodOn {s : Sg} {L : Nat → Lw} {h : qa_M} (w : WF s) (rp : RP s L h) {l : List Nat} (hl : l.length = nT s) (hs : stk (h.1 151) l) (h36 : lt36 l) {q o : Nat} (hq : q < 36) (ho : o < 4) : m_X12_stoodOn (nn q) (nn o) h = some (bi (decide (0 < cP (stdP s q o) l)), h) := by
  have hn := w.n
  have l4 := w.s.2
  unfold m_X12_stoodOn f_X12_stoodOn_b5_loop
  simp only [qbd_e]
  rw [← cP_stk hs h36, hl]
  refine qlp_for0 (fun k => (nn q, nn o, bi (decide (0 < cnt (fun u => stdP s q o u (cN (h.1 151 u))) k)), nn k, h)) (nT s) ?_ ?_
  · intro k hk
    obtain ⟨a, ha, ea⟩ := stk_at hs h36 k (by omega)
    have sk := srt_lt hk
    have hi : stdP s q o k (cN (h.1 151 k)) = (decide (a = q) && decide (srt s k = o)) := by
      unfold stdP
      rw [ea, cN_nn (by omega)]
    have e1 : cnt (fun u => stdP s q o u (cN (h.1 151 u))) (k + 1) = cnt (fun u => stdP s q o u (cN (h.1 151 u))) k + (if (decide (a = q) && decide (srt s k = o)) = true then 1 else 0) := by
      rw [← hi]
      rfl
    show f_X12_stoodOn_b5 (nn q) (nn o) (bi _) (nn k) h = _
    unfold f_X12_stoodOn_b5 f_X12_stoodOn_b40 f_X12_stoodOn_b44 f_X12_stoodOn_b45
    rw [rp.1, if_neg (fun q => by rw [nn_le (by omega) (by omega)] at q; omega)]
    simp (disch := first | omega | decide) only [qbn_x, qbv_x, qup_x, qbd_x, qck_nn, qck_ok, nn_cl, nn_add1, lx0, lx1, lx2, lx3, lx4, lx5, lx6, lx7, lx8, lx9, lx10, bi_e0, bi_e1]
    rw [ea, rp.2.1 k hk, e1]
    generalize cnt (fun u => stdP s q o u (cN (h.1 151 u))) k = C
    by_cases c0 : 0 < C
    · rw [decide_eq_true c0, if_neg (by decide), decide_eq_true (by omega)]
      rfl
    · rw [decide_eq_false c0, if_pos rfl, show C = 0 by omega]
      by_cases c1 : a = q
      · rw [if_pos (by rw [c1]), decide_eq_true c1]
        by_cases c2 : srt s k = o
        · rw [if_pos (by rw [c2]), decide_eq_true c2]; rfl
        · rw [if_neg (by rw [nn_eq (by omega) (by omega)]; exact c2), decide_eq_false c2]; rfl
      · rw [if_neg (by rw [nn_eq (by omega) (by omega)]; exact c1), decide_eq_false c1]; rfl
  · show f_X12_stoodOn_b5 (nn q) (nn o) (bi _) (nn (nT s)) h = _
    unfold f_X12_stoodOn_b5
    rw [rp.1, if_pos ((nn_le (by omega) (by omega)).mpr (by omega)), qpr_t bi_01, qup_s]
theorem GyS_fr {s : Sg} {L : Nat → Lw} {S : Nat} {F : List (List Nat)} {h g : qa_M} (gs : GyS s L S F h) (f : qfr [(119, 51), (119, 52)] h g) : GyS s L S F g := by
  obtain ⟨R, ⟨⟨a, b, c, d, e⟩, hR⟩, hF⟩ := gs
  refine ⟨R, ⟨⟨?_, fun t ht => ?_, fun x y hx hy => ?_, fun i hi => ?_, fun m hm => ?_⟩, ?_⟩, hF⟩
  · rw [(f.1 119 48 rfl).1]; exact a
  · rw [(f.1 152 t rfl).1]; exact b t ht
  · rw [(f.1 153 _ rfl).1]; exact c x y hx hy
  · rw [(f.1 154 i rfl).2.1]; exact d i hi
  · rw [(f.1 155 m rfl).2.1]; exact e m hm
  · have q1 : g.1 119 49 = h.1 119 49 := (f.1 119 49 rfl).1
    have q2 : g.1 151 = h.1 151 := by funext j; exact (f.1 151 j rfl).1
    rw [q1, q2]
    exact hR
theorem r_counts {h : qa_M} (w : WF (sg h)) (wl : ∀ k, k + 1 = gL (sg h) → WL (lw h k)) {S : Nat} (hS : S < 2 ^ gT (sg h)) {q o : Nat} (hq : q < 36) (ho : o < 4) :
    qW (m_X12_counts (nn S) (nn q) (nn o) h) (fun g => g.1 119 50 = nn (fitL (sg h) (lw h) S).length ∧ g.1 119 51 = nn ((fitL (sg h) (lw h) S).countP (fun l => decide (0 < cP (stdP (sg h) q o) l)))) := by
  unfold m_X12_counts
  rw [qW_bv]
  refine qW_mono (r_beginsG w wl S) ?_
  rintro g ⟨gs, -, s1, s2⟩
  rw [qbd_e, qbd_e]
  obtain ⟨s, hs0⟩ : ∃ s, s = sg h := ⟨_, rfl⟩
  obtain ⟨L, hL0⟩ : ∃ L, L = lw h := ⟨_, rfl⟩
  rw [← hs0] at w wl hS gs s1 ⊢
  rw [← hL0] at wl gs s2 ⊢
  unfold f_X12_counts_b14_loop
  have f0 : qfr [(119, 51), (119, 52)] g (qw_I (qw_I g 119 50 0) 119 51 0) := qfr_Ik rfl (by simp) (qfr_Ik rfl (by simp) qfr_rf)
  refine qW_lst (fun rem t => ∃ g D, t = (nn S, nn q, nn o, g) ∧ GyS s L S rem g ∧ sg g = s ∧ D ++ rem = fitL s L S ∧ g.1 119 50 = nn D.length ∧ g.1 119 51 = nn (D.countP (fun l => decide (0 < cP (stdP s q o) l)))) ?_ ?_ _ _ ⟨_, [], rfl, GyS_fr gs f0, by rw [sg_fr f0 (fun b j h1 h2 => by unfold inW; simp; omega), s1], rfl, by rw [wI_ne (by omega), wI_at]; rfl, wI_at⟩
  · rintro l rem t ⟨g, D, rfl, gs, hs, hD, h50, h51⟩
    show qW (f_X12_counts_b14 (nn S) (nn q) (nn o) g) _
    unfold f_X12_counts_b14
    rw [qW_bn]
    refine qW_fr (r_goesTo w wl hs hS gs) (fun z e => fr_X12_goesTo _ _ e) ?_
    rintro ⟨v, g2⟩ hz fg
    have fg : qfr [(119, 50), (151, 0)] g g2 := fg
    dsimp only at hz ⊢
    rcases hz with ⟨-, e⟩ | ⟨rfl, l2, F2, e, q1, q2, q3, q4⟩
    · cases e
    · cases e
      rw [if_neg (by decide), qbd_e, (fg.1 119 50 rfl).1, h50, nn_add1]
      obtain ⟨G, hG⟩ : ∃ G, G = qw_I g2 119 50 (nn (D.length + 1)) := ⟨_, rfl⟩
      rw [← hG]
      have fG : qfr [(119, 51), (119, 52)] g2 G := by rw [hG]; exact qfr_Ik rfl (by simp) qfr_rf
      have gG := GyS_fr q1 fG
      have sG : sg G = s := by rw [sg_fr fG (fun b j h1 h2 => by unfold inW; simp; omega), sg_ly fg, hs]
      have G51 : G.1 119 51 = nn (D.countP (fun l => decide (0 < cP (stdP s q o) l))) := by rw [hG, wI_ne (by omega), (fg.1 119 51 rfl).1, h51]
      have G50 : G.1 119 50 = nn (D.length + 1) := by rw [hG, wI_at]
      have G151 : stk (G.1 151) l := stk_up q3 (fun j _ => (fG.1 151 j rfl).1)
      obtain ⟨R, lsR, -⟩ := id gG
      rw [r_stoodOn w lsR.1 q2 G151 (good_lt q4) hq ho, qbn_s, G51]
      unfold f_X12_counts_b51
      have fin : ∀ v : Int32, nn (D.countP (fun l => decide (0 < cP (stdP s q o) l))) + v = nn ((D ++ [l]).countP (fun l => decide (0 < cP (stdP s q o) l))) → qW (qbd (qw_I G 119 51 (nn (D.countP (fun l => decide (0 < cP (stdP s q o) l))) + v)) (fun h52 : qa_M => (some (.inl (nn S, nn q, nn o, h52)) : Option ((Int32 × Int32 × Int32 × qa_M) ⊕ qa_M)))) (Sum.elim (fun t => ∃ g D, t = (nn S, nn q, nn o, g) ∧ GyS s L S rem g ∧ sg g = s ∧ D ++ rem = fitL s L S ∧ g.1 119 50 = nn D.length ∧ g.1 119 51 = nn (D.countP (fun l => decide (0 < cP (stdP s q o) l)))) (fun g : qa_M => g.1 119 50 = nn (fitL s L S).length ∧ g.1 119 51 = nn ((fitL s L S).countP (fun l => decide (0 < cP (stdP s q o) l))))) := by
        intro v hv
        rw [qbd_e, qW_some, hv]
        have fK : qfr [(119, 51), (119, 52)] G (qw_I G 119 51 (nn ((D ++ [l]).countP (fun l => decide (0 < cP (stdP s q o) l))))) := qfr_Ik rfl (by simp) qfr_rf
        exact ⟨_, D ++ [l], rfl, GyS_fr gG fK, by rw [sg_fr fK (fun b j h1 h2 => by unfold inW; simp; omega), sG], by rw [List.append_assoc, ← hD]; rfl, by rw [wI_ne (by omega), G50, List.length_append]; rfl, wI_at⟩
      rcases mb2 (decide (0 < cP (stdP s q o) l)) with e | e
      · rw [e, if_neg (by decide)]
        refine fin 1 ?_
        rw [nn_add1, List.countP_append, List.countP_cons_of_pos (p := fun l => decide (0 < cP (stdP s q o) l)) e]
        rfl
      · rw [e, if_pos (by decide)]
        refine fin 0 ?_
        rw [nn_add0, List.countP_append, List.countP_cons_of_neg (by rw [e]; decide)]
        rfl
  · rintro t ⟨g, D, rfl, gs, hs, hD, h50, h51⟩
    show qW (f_X12_counts_b14 (nn S) (nn q) (nn o) g) _
    unfold f_X12_counts_b14
    rw [qW_bn]
    refine qW_fr (r_goesTo w wl hs hS gs) (fun z e => fr_X12_goesTo _ _ e) ?_
    rintro ⟨v, g2⟩ hz fg
    have fg : qfr [(119, 50), (151, 0)] g g2 := fg
    dsimp only at hz ⊢
    have hD : D = fitL s L S := by simpa using hD
    rcases hz with ⟨rfl, -⟩ | ⟨-, l2, F2, e, -⟩
    · rw [if_pos rfl, qup_s, qW_some]
      show g2.1 119 50 = _ ∧ g2.1 119 51 = _
      rw [(fg.1 119 50 rfl).1, (fg.1 119 51 rfl).1, ← hD]
      exact ⟨h50, h51⟩
    · cases e
