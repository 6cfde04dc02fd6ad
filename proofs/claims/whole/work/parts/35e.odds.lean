/-! THINGS STAND APART, SO AT MOST ONE STANDS ON A SQUARE -/
theorem farL_0 {P : Nat → Nat → Bool} {s : Sg} {x o : Nat} (hP : ∀ t a, P t a = true → a ≠ x) : ∀ {st : List Nat}, farL P st = true → cP (stdP s x o) st = 0
  | [], _ => rfl
  | a :: st, h => by
    have h : (farL P st && P st.length a) = true := h
    rw [Bool.and_eq_true] at h
    show cP (stdP s x o) st + (if stdP s x o st.length a = true then 1 else 0) = 0
    rw [farL_0 hP h.1, if_neg (by
      unfold stdP
      rw [decide_eq_false (hP _ _ h.2), Bool.false_and]
      decide)]
theorem cP_std1 {s : Sg} {L : Nat → Lw} (wl : ∀ k, k + 1 = gL s → WL (L k)) {q o : Nat} : ∀ {l : List Nat}, good (okA s L) l → cP (stdP s q o) l ≤ 1
  | [], _ => Nat.zero_le _
  | x :: st, g => by
    obtain ⟨g1, g2, g3⟩ := g
    have ih := cP_std1 wl (q := q) (o := o) g3
    show cP (stdP s q o) st + (if stdP s q o st.length x = true then 1 else 0) ≤ 1
    by_cases c : stdP s q o st.length x = true
    · rw [if_pos c]
      unfold stdP at c
      rw [Bool.and_eq_true, decide_eq_true_eq] at c
      unfold okA at g2
      rw [Bool.and_eq_true, Bool.and_eq_true] at g2
      have f := g2.1.2
      unfold farK at f
      have := farL_0 (s := s) (x := q) (o := o) (fun t a ht => by
        rw [decide_eq_true_eq, c.1] at ht
        have f1 := (frS_le wl (srt s st.length) (srt s t)).2
        intro e
        subst e
        have d0 : ds a a = 0 := by unfold ds dst; omega
        omega) f
      omega
    · rw [if_neg c]; exact ih
theorem cP_ext {s : Sg} {L : Nat → Lw} {P Q : Nat → Nat → Bool} (h : ∀ t x, x < 36 → thr s x = true → P t x = Q t x) : ∀ {l : List Nat}, good (okA s L) l → cP P l = cP Q l
  | [], _ => rfl
  | x :: st, g => by
    obtain ⟨g1, g2, g3⟩ := g
    show cP P st + (if P st.length x = true then 1 else 0) = cP Q st + (if Q st.length x = true then 1 else 0)
    unfold okA at g2
    rw [Bool.and_eq_true, Bool.and_eq_true] at g2
    have t := g2.1.1
    unfold alw at t
    rw [tb_mkm (by omega), Bool.and_eq_true, Bool.and_eq_true] at t
    rw [cP_ext h g3, h _ x g1 t.2.1]
def oK (s : Sg) (L : Nat → Lw) (S q o : Nat) : Nat := (fitL s L S).countP (fun l => decide (0 < cP (stdP s q o) l))
theorem oK_le {s : Sg} {L : Nat → Lw} {S q o : Nat} : oK s L S q o ≤ (fitL s L S).length := List.countP_le_length
theorem tl_1 {s : Sg} {L : Nat → Lw} {S q o : Nat} (wl : ∀ k, k + 1 = gL s → WL (L k)) (hq : q < 36) : tlC s o (q_lshl 1 (nn q)) (fitL s L S) 1 = oK s L S q o ∧ tlC s o (q_lshl 1 (nn q)) (fitL s L S) 0 = (fitL s L S).length - oK s L S q o := by
  have e : tlP s o (q_lshl 1 (nn q)) = stdP s q o := by
    funext t x
    unfold tlP stdP
    rw [tb_bit (by omega), Bool.and_comm]
  have m : ∀ l, l ∈ fitL s L S → cP (stdP s q o) l ≤ 1 := fun l hl => cP_std1 wl (fit_mem hl).2
  constructor
  · unfold tlC oK
    rw [e]
    apply List.countP_congr
    intro l hl
    have := m l hl
    rw [decide_eq_true_eq, decide_eq_true_eq]
    omega
  · have h1 : tlC s o (q_lshl 1 (nn q)) (fitL s L S) 0 + oK s L S q o = (fitL s L S).length := by
      unfold tlC oK
      rw [e, List.length_eq_countP_add_countP (fun l => decide (0 < cP (stdP s q o) l)), Nat.add_comm]
      congr 1
      apply List.countP_congr
      intro l hl
      simp
    omega
/-! MAY, AND HOW LIKELY -/
def aMay (s : Sg) (L : Nat → Lw) (x1 x2 x3 x4 : Int32) : Int32 := if knw s x1 then (if isq s x2 x3 then (if wiN x4 (gS s) then (if oK s L (cN x1) (cN (6 * x3 + x2)) (cN x4) = 0 then 0 else if oK s L (cN x1) (cN (6 * x3 + x2)) (cN x4) = (fitL s L (cN x1)).length then 2 else 1) else -1) else -1) else -1
def aOdds (s : Sg) (L : Nat → Lw) (x1 x2 x3 x4 x5 : Int32) : Int32 := if knw s x1 then (if isq s x2 x3 then (if wiN x4 (gS s) then (if wiN x5 2 then (if oK s L (cN x1) (cN (6 * x3 + x2)) (cN x4) = 0 then x5 else if x5 = 0 then nn (oK s L (cN x1) (cN (6 * x3 + x2)) (cN x4) / Nat.gcd (oK s L (cN x1) (cN (6 * x3 + x2)) (cN x4)) (fitL s L (cN x1)).length) else nn ((fitL s L (cN x1)).length / Nat.gcd (oK s L (cN x1) (cN (6 * x3 + x2)) (cN x4)) (fitL s L (cN x1)).length)) else -1) else -1) else -1) else -1
theorem k_tal {s : Sg} {L : Nat → Lw} {nl : Nat} {B : Nat → Nat} {n : Nat} {I : Nat → Option qa_M} {v S q o : Nat} {h : qa_M} {α : Type} {K : qa_M → Option α} {P : α → Prop} (a : AL s L nl) (i : IvC s L nl B n I v h) (hv : v < 2147483648) (hS : S < 2 ^ gT s) (ho : o < 4) {x y : Int32} (hq : q < 36) (e : (6 : Int32) * y + x = nn q) (hK : ∀ g, IvC s L nl B n I v g → g.1 33 1 = nn (oK s L S q o) → g.1 33 0 = nn ((fitL s L S).length - oK s L S q o) → qW (K g) P) : qW (qbv (m_X11_prepare h) (fun h44 : qa_M => qbn (m_X2_bit x y h44) (fun (c56 : Int64) (h56 : qa_M) => qbv (m_X7_tally (nn S) (nn o) c56 h56) K))) P := by
  rw [qW_bv]
  refine qW_mono (k_ready a i hv) ?_
  intro g ig
  unfold m_X2_bit
  rw [e, qbn_s, qW_bv]
  refine qW_fr (k_tally a.wf a.w1 ig.1.nt ig.2.2 ig.1.rs hS ho (fun k hk => by rw [tb_bit (by omega), decide_eq_false (by omega)])) (fun z e => fr_X7_tally _ _ _ _ e) ?_
  intro g2 hz f
  have f : qfr w_X7_tally g g2 := f
  obtain ⟨t1, t0⟩ := tl_1 (o := o) (S := S) a.w1 hq
  exact hK g2 (ig.fr a f (fun b j k => by unfold kpP kpV at k; unfold w_X7_tally inW; simp; omega)).c (by rw [hz 1 (by omega), t1]) (by rw [hz 0 (by omega), t0])
theorem k_aMay {s : Sg} {L : Nat → Lw} {nl : Nat} {B : Nat → Nat} {n : Nat} {I : Nat → Option qa_M} {v : Nat} {h : qa_M} {x1 x2 x3 x4 : Int32} (a : AL s L nl) (i : IvC s L nl B n I v h) (hv : v < 2147483648) : qW (m_X11_may x1 x2 x3 x4 h) (fun r => r.1 = aMay s L x1 x2 x3 x4 ∧ IvC s L nl B n I v r.2) := by
  have e4 : h.1 4 4 = nn (gS s) := i.1.rs.1.1.2.2.2.2.1.trans a.wf.s.1
  have l4 := a.wf.s.2
  unfold m_X11_may aMay
  rw [k_known a.wf i.1.rs, qbn_s]
  by_cases c : knw s x1 = true
  · obtain ⟨c0, S, hS, hS2, e⟩ := knw_t c
    rw [c, if_neg (by decide), if_pos rfl, k_holds a.wf i.1.rs.1, qbn_s]
    show qW (if bi (isq s x2 x3) = 0 then _ else _) _
    by_cases c2 : isq s x2 x3 = true
    · obtain ⟨u, w, hu, hw, -, -, h36, -, eq⟩ := isq_t a.wf c2
      rw [c2, if_neg (by decide), if_pos rfl, e4, k_wi (by omega), qbn_s]
      by_cases c3 : wiN x4 (gS s) = true
      · obtain ⟨o, ho, -, eo⟩ := wiN_t c3
        have fl := fit_len (L := L) (S := S) a.wf
        have kl := oK_le (s := s) (L := L) (S := S) (q := 6 * w + u) (o := o)
        rw [c3, if_neg (by decide), if_pos rfl, e, eo, eq, cN_nn hS2, cN_nn (by omega), cN_nn (by omega)]
        refine k_tal a i hv hS (by omega) h36 eq ?_
        intro g ig g1 g0
        rw [qck_ok (i := 1) (by decide), show (1 : Int32).toNatClampNeg = 1 from rfl, g1, qck_ok (i := 0) (by decide), show (0 : Int32).toNatClampNeg = 0 from rfl, g0]
        by_cases k0 : oK s L S (6 * w + u) o = 0
        · rw [if_pos (by rw [k0]; rfl), if_pos k0, qW_some]; exact ⟨rfl, ig⟩
        · rw [if_neg (fun q => by rw [show (0 : Int32) = nn 0 from rfl, nn_eq (by omega) (by omega)] at q; exact k0 q), if_neg k0]
          by_cases k1 : oK s L S (6 * w + u) o = (fitL s L S).length
          · rw [if_pos (by rw [k1, Nat.sub_self]; rfl), if_pos k1, qW_some]; exact ⟨rfl, ig⟩
          · rw [if_neg (fun q => by rw [show (0 : Int32) = nn 0 from rfl, nn_eq (by omega) (by omega)] at q; omega), if_neg k1, qW_some]; exact ⟨rfl, ig⟩
      · rw [Bool.not_eq_true] at c3
        rw [c3, if_pos bi_f, if_neg (by decide), qW_some]; exact ⟨rfl, i⟩
    · rw [Bool.not_eq_true] at c2
      rw [c2, if_pos bi_f, if_neg (by decide), qW_some]; exact ⟨rfl, i⟩
  · rw [Bool.not_eq_true] at c
    rw [c, if_pos bi_f, if_neg (by decide), qW_some]; exact ⟨rfl, i⟩
theorem r_aMay {h : qa_M} {x1 x2 x3 x4 : Int32} (w : WF (sg h)) (wl : ∀ k, k + 1 = gL (sg h) → WL (lw h k)) : qW (m_X12_may x1 x2 x3 x4 h) (fun r => r.1 = aMay (sg h) (lw h) x1 x2 x3 x4) := by
  have l4 := w.s.2
  unfold m_X12_may aMay
  rw [r_known w, qbn_s]
  by_cases c : knw (sg h) x1 = true
  · obtain ⟨c0, S, hS, hS2, e⟩ := knw_t c
    rw [c, if_neg (by decide), if_pos rfl, r_isSquare w, qbn_s]
    show qW (if bi (isq (sg h) x2 x3) = 0 then _ else _) _
    by_cases c2 : isq (sg h) x2 x3 = true
    · obtain ⟨u, y, hu, hy, -, -, h36, -, eq⟩ := isq_t w c2
      rw [c2, if_neg (by decide), if_pos rfl, r_isSort w, qbn_s]
      show qW (if bi (wiN x4 (gS (sg h))) = 0 then _ else _) _
      by_cases c3 : wiN x4 (gS (sg h)) = true
      · obtain ⟨o, ho, -, eo⟩ := wiN_t c3
        have fl := fit_len (L := lw h) (S := S) w
        have kl := oK_le (s := sg h) (L := lw h) (S := S) (q := 6 * y + u) (o := o)
        rw [c3, if_neg (by decide), if_pos rfl, e, eo, eq, cN_nn hS2, cN_nn (by omega), cN_nn (by omega), qW_bv]
        refine qW_mono (r_counts w wl hS h36 (by omega)) ?_
        rintro g ⟨g0, g1⟩
        have g1 : g.1 119 51 = nn (oK (sg h) (lw h) S (6 * y + u) o) := g1
        rw [g1, g0]
        by_cases k0 : oK (sg h) (lw h) S (6 * y + u) o = 0
        · rw [if_pos (by rw [k0]; rfl), if_pos k0, qW_some]
        · rw [if_neg (fun q => by rw [show (0 : Int32) = nn 0 from rfl, nn_eq (by omega) (by omega)] at q; exact k0 q), if_neg k0]
          by_cases k1 : oK (sg h) (lw h) S (6 * y + u) o = (fitL (sg h) (lw h) S).length
          · rw [if_pos (by rw [k1]), if_pos k1, qW_some]
          · rw [if_neg (fun q => by rw [nn_eq (by omega) (by omega)] at q; omega), if_neg k1, qW_some]
      · rw [Bool.not_eq_true] at c3
        rw [c3, if_pos bi_f, if_neg (by decide), qW_some]
    · rw [Bool.not_eq_true] at c2
      rw [c2, if_pos bi_f, if_neg (by decide), qW_some]
  · rw [Bool.not_eq_true] at c
    rw [c, if_pos bi_f, if_neg (by decide), qW_some]
theorem k_aOdds {s : Sg} {L : Nat → Lw} {nl : Nat} {B : Nat → Nat} {n : Nat} {I : Nat → Option qa_M} {v : Nat} {h : qa_M} {x1 x2 x3 x4 x5 : Int32} (a : AL s L nl) (i : IvC s L nl B n I v h) (hv : v < 2147483648) : qW (m_X11_odds x1 x2 x3 x4 x5 h) (fun r => r.1 = aOdds s L x1 x2 x3 x4 x5 ∧ IvC s L nl B n I v r.2) := by
  have e4 : h.1 4 4 = nn (gS s) := i.1.rs.1.1.2.2.2.2.1.trans a.wf.s.1
  have l4 := a.wf.s.2
  unfold m_X11_odds aOdds
  rw [k_known a.wf i.1.rs, qbn_s]
  by_cases c : knw s x1 = true
  · obtain ⟨c0, S, hS, hS2, e⟩ := knw_t c
    rw [c, if_neg (by decide), if_pos rfl, k_holds a.wf i.1.rs.1, qbn_s]
    show qW (if bi (isq s x2 x3) = 0 then _ else _) _
    by_cases c2 : isq s x2 x3 = true
    · obtain ⟨u, w, hu, hw, -, -, h36, -, eq⟩ := isq_t a.wf c2
      rw [c2, if_neg (by decide), if_pos rfl, e4, k_wi (by omega), qbn_s]
      by_cases c3 : wiN x4 (gS s) = true
      · obtain ⟨o, ho, -, eo⟩ := wiN_t c3
        have fl := fit_len (L := L) (S := S) a.wf
        have kl := oK_le (s := s) (L := L) (S := S) (q := 6 * w + u) (o := o)
        rw [c3, if_neg (by decide), if_pos rfl, show (2 : Int32) = nn 2 from rfl, k_wi (by omega), qbn_s]
        by_cases c5 : wiN x5 2 = true
        · obtain ⟨d, hd, -, ed⟩ := wiN_t c5
          rw [c5, if_neg (by decide), if_pos rfl, e, eo, eq, cN_nn hS2, cN_nn (by omega), cN_nn (by omega)]
          refine k_tal a i hv hS (by omega) h36 eq ?_
          intro g ig g1 g0
          rw [qck_ok (i := 1) (by decide), show (1 : Int32).toNatClampNeg = 1 from rfl, g1, qbd_e, qck_ok (i := 0) (by decide), show (0 : Int32).toNatClampNeg = 0 from rfl, g0, nn_add, show oK s L S (6 * w + u) o + ((fitL s L S).length - oK s L S (6 * w + u) o) = (fitL s L S).length by omega, qbd_e, k_commonDivisor (by omega) (by omega), qbn_s, qbd_e, Nat.gcd_comm]
          obtain ⟨K, hK⟩ : ∃ K, K = oK s L S (6 * w + u) o := ⟨_, rfl⟩
          obtain ⟨N, hN⟩ : ∃ N, N = (fitL s L S).length := ⟨_, rfl⟩
          rw [← hK, ← hN]
          rw [← hK, ← hN] at kl
          rw [← hN] at fl
          have gN : Nat.gcd K N ≤ N ∨ N = 0 := by
            rcases Nat.eq_zero_or_pos N with q | q
            · exact .inr q
            · exact .inl (Nat.gcd_le_right K q)
          have g2 : Nat.gcd K N < 2147483648 := by
            rcases gN with q | q
            · omega
            · have : K = 0 := by omega
              rw [q, this]; decide
          by_cases n0 : Nat.gcd K N = 0
          · have k0 : K = 0 := Nat.eq_zero_of_gcd_eq_zero_left n0
            rw [if_pos (by rw [n0]; rfl), if_pos k0, qW_some]; exact ⟨rfl, ig⟩
          · have nz : ¬ nn (Nat.gcd K N) = 0 := fun q => by rw [show (0 : Int32) = nn 0 from rfl, nn_eq g2 (by omega)] at q; exact n0 q
            rw [if_neg nz]
            unfold f_X11_odds_b125
            rw [qnz_f nz, qnz_f nz, nn_div (by omega) g2, nn_div (by omega) g2]
            by_cases k0 : K = 0
            · rw [if_pos k0, k0, Nat.gcd_zero_left, Nat.zero_div]
              rw [k0, Nat.gcd_zero_left] at n0
              have d2 : d = 0 ∨ d = 1 := by omega
              rcases d2 with d2 | d2
              · subst d2
                rw [if_pos (by rw [ed]; rfl), qW_some]; exact ⟨by rw [ed], ig⟩
              · subst d2
                rw [if_neg (by rw [ed]; decide), qW_some]; exact ⟨by rw [ed, Nat.div_self (by omega)], ig⟩
            · rw [if_neg k0]
              by_cases c0 : x5 = 0
              · rw [if_pos c0, if_pos c0, qW_some]; exact ⟨rfl, ig⟩
              · rw [if_neg c0, if_neg c0, qW_some]; exact ⟨rfl, ig⟩
        · rw [Bool.not_eq_true] at c5
          rw [c5, if_pos bi_f, if_neg (by decide), qW_some]; exact ⟨rfl, i⟩
      · rw [Bool.not_eq_true] at c3
        rw [c3, if_pos bi_f, if_neg (by decide), qW_some]; exact ⟨rfl, i⟩
    · rw [Bool.not_eq_true] at c2
      rw [c2, if_pos bi_f, if_neg (by decide), qW_some]; exact ⟨rfl, i⟩
  · rw [Bool.not_eq_true] at c
    rw [c, if_pos bi_f, if_neg (by decide), qW_some]; exact ⟨rfl, i⟩
theorem r_aOdds {h : qa_M} {x1 x2 x3 x4 x5 : Int32} (w : WF (sg h)) (wl : ∀ k, k + 1 = gL (sg h) → WL (lw h k)) : qW (m_X12_odds x1 x2 x3 x4 x5 h) (fun r => r.1 = aOdds (sg h) (lw h) x1 x2 x3 x4 x5) := by
  have l4 := w.s.2
  unfold m_X12_odds aOdds
  rw [r_known w, qbn_s]
  by_cases c : knw (sg h) x1 = true
  · obtain ⟨c0, S, hS, hS2, e⟩ := knw_t c
    rw [c, if_neg (by decide), if_pos rfl, r_isSquare w, qbn_s]
    show qW (if bi (isq (sg h) x2 x3) = 0 then _ else _) _
    by_cases c2 : isq (sg h) x2 x3 = true
    · obtain ⟨u, y, hu, hy, -, -, h36, -, eq⟩ := isq_t w c2
      rw [c2, if_neg (by decide), if_pos rfl, r_isSort w, qbn_s]
      show qW (if bi (wiN x4 (gS (sg h))) = 0 then _ else _) _
      by_cases c3 : wiN x4 (gS (sg h)) = true
      · obtain ⟨o, ho, -, eo⟩ := wiN_t c3
        have fl := fit_len (L := lw h) (S := S) w
        have kl := oK_le (s := sg h) (L := lw h) (S := S) (q := 6 * y + u) (o := o)
        rw [c3, if_neg (by decide), if_pos rfl, r_wc (n := 2) (by decide), qbn_s]
        by_cases c5 : wiN x5 2 = true
        · rw [c5, if_neg (by decide), if_pos rfl, e, eo, eq, cN_nn hS2, cN_nn (by omega), cN_nn (by omega), qW_bv]
          refine qW_mono (r_counts w wl hS h36 (by omega)) ?_
          rintro g ⟨g0, g1⟩
          have g1 : g.1 119 51 = nn (oK (sg h) (lw h) S (6 * y + u) o) := g1
          rw [g1, g0]
          by_cases k0 : oK (sg h) (lw h) S (6 * y + u) o = 0
          · rw [if_pos (by rw [k0]; rfl), if_pos k0, qW_some]
          · rw [if_neg (fun q => by rw [show (0 : Int32) = nn 0 from rfl, nn_eq (by omega) (by omega)] at q; exact k0 q), if_neg k0, r_divisor0 (by omega) (by omega), qbn_s, qbd_e, g1, g0]
            have gp : Nat.gcd (oK (sg h) (lw h) S (6 * y + u) o) (fitL (sg h) (lw h) S).length ≤ oK (sg h) (lw h) S (6 * y + u) o := Nat.gcd_le_left _ (by omega)
            have gz : ¬ nn (Nat.gcd (oK (sg h) (lw h) S (6 * y + u) o) (fitL (sg h) (lw h) S).length) = 0 := fun q => by
              rw [show (0 : Int32) = nn 0 from rfl, nn_eq (by omega) (by omega)] at q
              exact k0 (Nat.eq_zero_of_gcd_eq_zero_left q)
            rw [qnz_f gz, qnz_f gz, nn_div (by omega) (by omega), nn_div (by omega) (by omega)]
            by_cases c0 : x5 = 0
            · rw [if_pos c0, if_pos c0, qW_some]
            · rw [if_neg c0, if_neg c0, qW_some]
        · rw [Bool.not_eq_true] at c5
          rw [c5, if_pos bi_f, if_neg (by decide), qW_some]
      · rw [Bool.not_eq_true] at c3
        rw [c3, if_pos bi_f, if_neg (by decide), qW_some]
    · rw [Bool.not_eq_true] at c2
      rw [c2, if_pos bi_f, if_neg (by decide), qW_some]
  · rw [Bool.not_eq_true] at c
    rw [c, if_pos bi_f, if_neg (by decide), qW_some]
