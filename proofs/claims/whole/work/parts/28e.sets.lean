/-! TRUST AND LEAST -/
def nBy (s : Sg) (S W c : Nat) : Nat := nmk (fun m => S.testBit m && W.testBit (cN (s 7 m))) c
theorem WF.by {s : Sg} (w : WF s) {m : Nat} (h : m < gT s) : s 7 m = nn (cN (s 7 m)) ∧ cN (s 7 m) ≤ 5 := inr_nn (w.2.2.2.2.2.1 m h).1 (by omega)
theorem k_without {s : Sg} {h : qa_M} (w : WF s) (r : RelS 3 s h) {S W : Nat} (hS : S < 1024) (hW : W < 64) : m_X1_without (nn S) (nn W) h = some (nn (andn S (nBy s S W (gT s))), h) := by
  have l10 := w.t.2
  have e31 : h.1 3 1 = nn (gT s) := r.2.1.trans w.t.1
  unfold m_X1_without f_X1_without_b5_loop
  simp only [qbd_e]
  have s0 : (nn W, nn S, (0 : Int32), h) = (fun c => (nn W, nn (andn S (nBy s S W c)), nn c, h)) 0 := by
    show _ = (nn W, nn (andn S 0), nn 0, h)
    have : andn S 0 = S := by unfold andn; simp
    rw [this]
    rfl
  rw [s0]
  refine qlp_for0 (fun c => (nn W, nn (andn S (nBy s S W c)), nn c, h)) (gT s) ?_ ?_
  · intro c hc
    obtain ⟨b1, b2⟩ := w.by hc
    show f_X1_without_b5 (nn W) (nn _) (nn c) h = _
    unfold f_X1_without_b5 f_X1_without_b36 m_X8_surveyor
    rw [e31, if_neg (fun q => by rw [nn_le (by omega) (by omega)] at q; omega), show (0 : Int32) = nn 0 from rfl, k_fact w r hc (by omega), qbn_s, qbn_s, show s (7 + 0) c = nn (cN (s 7 c)) from b1, nn_bit _ (by omega) W (by omega), nn_sh1 (by omega), nn_adn]
    rcases mb2 (W.testBit (cN (s 7 c))) with e | e
    · rw [e, if_neg (by decide), qbd_e, qbd_e, nn_add1]
      congr 5
      apply Nat.eq_of_testBit_eq
      intro j
      unfold nBy
      rw [andn_tb, andn_tb, andn_tb, nmk_tb, nmk_tb, Nat.testBit_two_pow]
      by_cases d : c = j
      · subst d
        rw [decide_eq_true rfl, decide_eq_true (show c < c + 1 by omega), e]
        cases S.testBit c <;> simp
      · rw [decide_eq_false d, show decide (j < c + 1) = decide (j < c) by rw [decide_eq_decide]; omega]
        simp
    · rw [e, if_pos (by decide), qbd_e, nn_add1]
      unfold nBy
      rw [nmk_or0 (p := fun m => S.testBit m && W.testBit (cN (s 7 m))) (by rw [e, Bool.and_false])]
  · show f_X1_without_b5 (nn W) (nn _) (nn (gT s)) h = _
    unfold f_X1_without_b5
    rw [e31, if_pos ((nn_le (by omega) (by omega)).mpr (by omega)), qup_s]
theorem r_notesBy {h : qa_M} (w : WF (sg h)) {S W : Nat} (hS : S < 1024) (hW : W < 64) : m_X12_notesBy (nn S) (nn W) h = some (nn (nBy (sg h) S W (gT (sg h))), h) := by
  have l10 := w.t.2
  have e5 : h.1 120 5 = nn (gT (sg h)) := w.t.1
  unfold m_X12_notesBy f_X12_notesBy_b5_loop
  simp only [qbd_e]
  refine qlp_for0 (fun c => (nn S, nn W, nn (nBy (sg h) S W c), nn c, h)) (gT (sg h)) ?_ ?_
  · intro c hc
    obtain ⟨b1, b2⟩ := w.by hc
    show f_X12_notesBy_b5 (nn S) (nn W) (nn _) (nn c) h = _
    unfold f_X12_notesBy_b5 f_X12_notesBy_b49 f_X12_notesBy_b50
    simp (disch := first | omega | decide) only [qbn_x, qbv_x, qup_x, qbd_x, qck_nn, qck_ok, nn_cl, nn_add1, lx0, lx1, lx2, lx3, lx4, lx5, lx6, lx7, lx8, lx9, lx10, bi_e0, bi_e1]
    rw [e5, if_neg (fun q => by rw [nn_le (by omega) (by omega)] at q; omega), r_has32 (by omega) (by omega), qbn_s, show h.1 127 c = nn (cN (sg h 7 c)) from b1, r_has32 (by omega) (by omega), qbn_s, nn_sh1 (by omega)]
    unfold nBy
    rw [← nmk_or]
    rcases mb2 (S.testBit c) with e1 | e1
    · rw [e1, if_neg (by decide), Bool.true_and]
      rcases mb2 (W.testBit (cN (sg h 7 c))) with e2 | e2
      · rw [e2, if_neg (by decide), if_pos rfl, nn_or]
      · rw [e2, if_pos (by decide), if_neg (by decide), show (0 : Int32) = nn 0 from rfl, nn_or]
    · rw [e1, if_pos (by decide), Bool.false_and, if_neg (by decide), show (0 : Int32) = nn 0 from rfl, nn_or]
  · show f_X12_notesBy_b5 (nn S) (nn W) (nn _) (nn (gT (sg h))) h = _
    unfold f_X12_notesBy_b5
    simp (disch := first | omega | decide) only [qbn_x, qbv_x, qup_x, qbd_x, qck_nn, qck_ok, nn_cl, nn_add1, lx0, lx1, lx2, lx3, lx4, lx5, lx6, lx7, lx8, lx9, lx10, bi_e0, bi_e1]
    rw [e5, if_pos ((nn_le (by omega) (by omega)).mpr (by omega))]
def gdT (s : Sg) (L : Nat → Lw) (S k : Nat) : Bool := decide (0 < (fitL s L (andn S (nBy s S k (gT s)))).length)
theorem k_distrust {s : Sg} {L : Nat → Lw} {S : Nat} {h : qa_M} (w : WF s) (r : RelS 3 s h) (ft : FT s L h) (hS : S < 2 ^ gT s) {N : Nat} (hN : N = 64) : m_X1_fewestToDistrust (nn S) h = some (oI (bst (gdT s L S) N), h) := by
  have l10 := w.t.2
  have hS2 : S < 1024 := by
    have : 2 ^ gT s ≤ 2 ^ 10 := Nat.pow_le_pow_right (by omega) l10
    omega
  unfold m_X1_fewestToDistrust f_X1_fewestToDistrust_b6_loop
  simp only [qbd_e]
  refine qlp_for0 (fun k => (nn S, oI (bst (gdT s L S) k), nn k, h)) N ?_ ?_
  · intro k hk
    have al := andn_le (a := S) (b := nBy s S k (gT s))
    have fl := fit_len (L := L) (S := andn S (nBy s S k (gT s))) w
    show f_X1_fewestToDistrust_b6 (nn S) (oI _) (nn k) h = _
    unfold f_X1_fewestToDistrust_b6 f_X1_fewestToDistrust_b40
    rw [if_neg (by rw [show (64 : Int32) = nn 64 from rfl, nn_le (by omega) (by omega)]; omega), k_without w r hS2 (by omega), qbn_s, bst_s]
    simp (disch := first | omega | decide) only [qbn_x, qbv_x, qup_x, qbd_x, qck_nn, qck_ok, nn_cl, nn_add1, lx0, lx1, lx2, lx3, lx4, lx5, lx6, lx7, lx8, lx9, lx10, bi_e0, bi_e1]
    rw [FT_of w ft (by omega), k_isFewer (by omega) (fun b hb => by have := bst_lt hb; omega), qbn_s, show gdT s L S k = decide (0 < (fitL s L (andn S (nBy s S k (gT s)))).length) from rfl]
    by_cases d : (fitL s L (andn S (nBy s S k (gT s)))).length = 0
    · rw [if_pos ((nn_pos (by omega)).mpr d), decide_eq_false (by omega)]
      rfl
    · rw [if_neg (fun q => d ((nn_pos (by omega)).mp q)), decide_eq_true (by omega), Bool.true_and]
      cases fwr k (bst (gdT s L S) k) <;> rfl
  · show f_X1_fewestToDistrust_b6 (nn S) (oI (bst (gdT s L S) N)) (nn N) h = _
    unfold f_X1_fewestToDistrust_b6
    rw [if_pos (by rw [hN]; decide), qup_s]
theorem r_distrust {L : Nat → Lw} {S : Nat} {h : qa_M} (w : WF (sg h)) (hf : ∀ T, andn T S = 0 → h.1 157 T = nn (fitL (sg h) L T).length) (hS : S < 1024) {N : Nat} (hN : N = 64) : f_X12_trust_b20_loop (nn S) (-2) (nn 0) h = some (oI (bst (gdT (sg h) L S) N), h) := by
  unfold f_X12_trust_b20_loop
  refine qlp_for0 (fun k => (nn S, oI (bst (gdT (sg h) L S) k), nn k, h)) N ?_ ?_
  · intro k hk
    have al := andn_le (a := S) (b := nBy (sg h) S k (gT (sg h)))
    have fl := fit_len (L := L) (S := andn S (nBy (sg h) S k (gT (sg h)))) w
    show f_X12_trust_b20 (nn S) (oI _) (nn k) h = _
    unfold f_X12_trust_b20 f_X12_trust_b49 f_X12_trust_b73 f_X12_trust_b77 f_X12_trust_b78
    rw [if_neg (by rw [show (64 : Int32) = nn 64 from rfl, nn_le (by omega) (by omega)]; omega), r_notesBy w hS (by omega), qbn_s, nn_adn, bst_s]
    simp only [qbd_x, i10, if_true, if_false]
    rw [nn_add1, r_fewer (h := h) (o := bst (gdT (sg h) L S) k) (α := (Int32 × Int32 × Int32 × qa_M) ⊕ (Int32 × qa_M)) (A := fun y => some (.inl (nn S, nn k, nn (k + 1), y))) (B := fun y => some (.inl (nn S, oI (bst (gdT (sg h) L S) k), nn (k + 1), y))) (show k < 1024 by omega) (fun b hb => by have := bst_lt hb; omega)]
    rw [qck_nn (by omega) (by omega), nn_cl (by omega), hf _ (andn_0.mpr (fun j hj => by rw [andn_tb, Bool.and_eq_true] at hj; exact hj.1)), show gdT (sg h) L S k = decide (0 < (fitL (sg h) L (andn S (nBy (sg h) S k (gT (sg h))))).length) from rfl]
    by_cases d : (fitL (sg h) L (andn S (nBy (sg h) S k (gT (sg h))))).length = 0
    · rw [if_pos ((nn_pos (by omega)).mpr d), decide_eq_false (by omega)]
      rfl
    · rw [if_neg (fun q => d ((nn_pos (by omega)).mp q)), decide_eq_true (by omega), Bool.true_and]
      cases fwr k (bst (gdT (sg h) L S) k) <;> rfl
  · show f_X12_trust_b20 (nn S) (oI (bst (gdT (sg h) L S) N)) (nn N) h = _
    unfold f_X12_trust_b20
    rw [if_pos (by rw [hN]; decide), qup_s]
/-! least -/
def gdL (s : Sg) (L : Nat → Lw) (S k : Nat) : Bool := decide (andn k S = 0) && decide ((fitL s L k).length = (fitL s L S).length)
theorem gdL_sub {s : Sg} {L : Nat → Lw} {S k : Nat} (h : gdL s L S k = true) : andn k S = 0 := by
  unfold gdL at h
  rw [Bool.and_eq_true, decide_eq_true_eq] at h
  exact h.1
def lst (good : Nat → Bool) (S : Nat) : Nat → Nat
  | 0 => S
  | k + 1 => if good k && decide (pc k < pc (lst good S k)) then k else lst good S k
theorem cnt_sub {p q : Nat → Bool} (h : ∀ j, p j = true → q j = true) : ∀ {n : Nat}, cnt p n ≤ cnt q n ∧ (cnt p n = cnt q n → ∀ j, j < n → p j = q j)
  | 0 => ⟨Nat.le_refl _, fun _ j hj => by omega⟩
  | n + 1 => by
    obtain ⟨a, b⟩ := cnt_sub h (n := n)
    have e1 : cnt p (n + 1) = cnt p n + (if p n = true then 1 else 0) := rfl
    have e2 : cnt q (n + 1) = cnt q n + (if q n = true then 1 else 0) := rfl
    rcases mb2 (p n) with c | c
    · rw [e1, e2, c, h n c]
      refine ⟨by omega, fun e j hj => ?_⟩
      by_cases d : j = n
      · subst d; rw [c, h j c]
      · exact b (by omega) j (by omega)
    · rw [e1, e2, c]
      rcases mb2 (q n) with c2 | c2
      · rw [c2]
        simp
        refine ⟨by omega, fun e => by omega⟩
      · rw [c2]
        refine ⟨by simp; exact a, fun e j hj => ?_⟩
        by_cases d : j = n
        · subst d; rw [c, c2]
        · exact b (by simp at e; exact e) j (by omega)
theorem pc_sub {a b : Nat} (ha : a < 1024) (hb : b < 1024) (h : andn a b = 0) : pc a ≤ pc b ∧ (pc a = pc b → a = b) := by
  obtain ⟨x, y⟩ := cnt_sub (p := a.testBit) (q := b.testBit) (fun j hj => andn_0.mp h j hj) (n := 10)
  refine ⟨x, fun e => ?_⟩
  apply Nat.eq_of_testBit_eq
  intro j
  by_cases c : j < 10
  · exact y e j c
  · rw [Nat.testBit_lt_two_pow (x := a) (Nat.lt_of_lt_of_le ha (Nat.pow_le_pow_right (n := 2) (i := 10) (by omega) (by omega))), Nat.testBit_lt_two_pow (x := b) (Nat.lt_of_lt_of_le hb (Nat.pow_le_pow_right (n := 2) (i := 10) (by omega) (by omega)))]
theorem lst_inv {s : Sg} {L : Nat → Lw} {S : Nat} (hS : S < 1024) : ∀ k, (lst (gdL s L S) S k = S ∨ lst (gdL s L S) S k < k) ∧ pc (lst (gdL s L S) S k) ≤ pc S ∧ lst (gdL s L S) S k ≤ S
  | 0 => ⟨.inl rfl, Nat.le_refl _, Nat.le_refl _⟩
  | k + 1 => by
    obtain ⟨a, b, d⟩ := lst_inv (s := s) (L := L) hS k
    show ((if (gdL s L S k && decide (pc k < pc (lst (gdL s L S) S k))) = true then k else lst (gdL s L S) S k) = S ∨ (if (gdL s L S k && decide (pc k < pc (lst (gdL s L S) S k))) = true then k else lst (gdL s L S) S k) < k + 1) ∧ pc (if (gdL s L S k && decide (pc k < pc (lst (gdL s L S) S k))) = true then k else lst (gdL s L S) S k) ≤ pc S ∧ (if (gdL s L S k && decide (pc k < pc (lst (gdL s L S) S k))) = true then k else lst (gdL s L S) S k) ≤ S
    split
    · rename_i c
      rw [Bool.and_eq_true, decide_eq_true_eq] at c
      have := sub_le (gdL_sub c.1)
      exact ⟨.inr (by omega), by omega, this⟩
    · exact ⟨by omega, b, d⟩
theorem lst_more {s : Sg} {L : Nat → Lw} {S : Nat} (hS : S < 1024) : ∀ d, lst (gdL s L S) S (S + d) = lst (gdL s L S) S S
  | 0 => rfl
  | d + 1 => by
    have ih := lst_more (s := s) (L := L) hS d
    obtain ⟨a, b, e⟩ := lst_inv (s := s) (L := L) hS (S + d)
    show (if (gdL s L S (S + d) && decide (pc (S + d) < pc (lst (gdL s L S) S (S + d)))) = true then S + d else lst (gdL s L S) S (S + d)) = _
    rw [if_neg, ih]
    intro c
    rw [Bool.and_eq_true, decide_eq_true_eq] at c
    have := sub_le (gdL_sub c.1)
    have hd : d = 0 := by omega
    subst hd
    have := c.2
    rw [Nat.add_zero] at this b
    omega
theorem k_least {s : Sg} {L : Nat → Lw} {S : Nat} {h : qa_M} (w : WF s) (ft : FT s L h) (hS : S < 2 ^ gT s) : m_X1_fewestThatSayAsMuch (nn S) h = some (nn (lst (gdL s L S) S S), h) := by
  have l10 := w.t.2
  have hS2 : S < 1024 := by
    have : 2 ^ gT s ≤ 2 ^ 10 := Nat.pow_le_pow_right (by omega) l10
    omega
  unfold m_X1_fewestThatSayAsMuch f_X1_fewestThatSayAsMuch_b4_loop
  simp only [qbd_e]
  refine qlp_for0 (fun k => (nn S, nn (lst (gdL s L S) S k), nn k, h)) S ?_ ?_
  · intro k hk
    obtain ⟨a, b, e⟩ := lst_inv (s := s) (L := L) hS2 k
    have fl := fit_len (L := L) (S := k) w
    have fl2 := fit_len (L := L) (S := S) w
    show f_X1_fewestThatSayAsMuch_b4 (nn S) (nn _) (nn k) h = some (.inl (nn S, nn (if (gdL s L S k && decide (pc k < pc (lst (gdL s L S) S k))) = true then k else lst (gdL s L S) S k), nn (k + 1), h))
    unfold f_X1_fewestThatSayAsMuch_b4 f_X1_fewestThatSayAsMuch_b42
    rw [if_neg (fun q => by rw [nn_le (by omega) (by omega)] at q; omega), nn_adn]
    by_cases c : andn k S = 0
    · rw [if_pos (by rw [c]; rfl)]
      simp (disch := first | omega | decide) only [qbn_x, qbv_x, qup_x, qbd_x, qck_nn, qck_ok, nn_cl, nn_add1, lx0, lx1, lx2, lx3, lx4, lx5, lx6, lx7, lx8, lx9, lx10, bi_e0, bi_e1]
      rw [FT_of w ft (show k < 2 ^ gT s by omega), FT_of w ft hS, show nn (lst (gdL s L S) S k) = oI (some (lst (gdL s L S) S k)) from rfl, k_isFewer (by omega) (fun b hb => by cases hb; omega), qbn_s, show gdL s L S k = (decide (andn k S = 0) && decide ((fitL s L k).length = (fitL s L S).length)) from rfl, decide_eq_true c, Bool.true_and]
      by_cases d : (fitL s L k).length = (fitL s L S).length
      · rw [if_pos (by rw [d]), decide_eq_true d, Bool.true_and]
        show (if bi (decide (pc k < pc (lst (gdL s L S) S k))) = 0 then _ else _) = _
        cases decide (pc k < pc (lst (gdL s L S) S k)) <;> rfl
      · rw [if_neg (by rw [nn_eq (by omega) (by omega)]; exact d), decide_eq_false d]
        rfl
    · rw [if_neg (by rw [show (0 : Int32) = nn 0 from rfl, nn_eq (by have := andn_le (a := k) (b := S); omega) (by omega)]; exact c), show gdL s L S k = (decide (andn k S = 0) && decide ((fitL s L k).length = (fitL s L S).length)) from rfl, decide_eq_false c, qbd_e, nn_add1]
      rfl
  · show f_X1_fewestThatSayAsMuch_b4 (nn S) (nn (lst (gdL s L S) S S)) (nn S) h = _
    unfold f_X1_fewestThatSayAsMuch_b4
    rw [if_pos ((nn_le (by omega) (by omega)).mpr (by omega)), qup_s]
theorem r_least {s : Sg} {L : Nat → Lw} {S : Nat} {h : qa_M} (w : WF s) (hf : ∀ T, andn T S = 0 → h.1 157 T = nn (fitL s L T).length) (hS : S < 1024) {N : Nat} (hN : N = 1024) : f_X12_least_b19_loop (nn S) (nn S) (nn 0) h = some (nn (lst (gdL s L S) S S), h) := by
  have hfin : lst (gdL s L S) S N = lst (gdL s L S) S S := by
    obtain ⟨d, rfl⟩ : ∃ d, N = S + d := ⟨N - S, by omega⟩
    exact lst_more hS d
  rw [← hfin]
  unfold f_X12_least_b19_loop
  refine qlp_for0 (fun k => (nn S, nn (lst (gdL s L S) S k), nn k, h)) N ?_ ?_
  · intro k hk
    obtain ⟨a, b, e⟩ := lst_inv (s := s) (L := L) hS k
    have fl := fit_len (L := L) (S := k) w
    have fl2 := fit_len (L := L) (S := S) w
    have p1 := pc_le (n := k)
    have p2 := pc_le (n := lst (gdL s L S) S k)
    show f_X12_least_b19 (nn S) (nn _) (nn k) h = some (.inl (nn S, nn (if (gdL s L S k && decide (pc k < pc (lst (gdL s L S) S k))) = true then k else lst (gdL s L S) S k), nn (k + 1), h))
    unfold f_X12_least_b19 f_X12_least_b53 f_X12_least_b54 f_X12_least_b88 f_X12_least_b92 f_X12_least_b93
    rw [if_neg (by rw [show (1024 : Int32) = nn 1024 from rfl, nn_le (by omega) (by omega)]; omega), nn_adn]
    simp only [qbd_x, i10, if_true, if_false]
    rw [nn_add1]
    by_cases c : andn k S = 0
    · rw [if_pos (by rw [c]; rfl), r_bits (by omega), qbn_s, r_bits (show lst (gdL s L S) S k < 1024 by omega), qbn_s, r_bits (by omega), qbn_s, r_bits (show lst (gdL s L S) S k < 1024 by omega), qbn_s]
      simp (disch := first | omega | decide) only [qbn_x, qbv_x, qup_x, qbd_x, qck_nn, qck_ok, nn_cl, nn_add1, lx0, lx1, lx2, lx3, lx4, lx5, lx6, lx7, lx8, lx9, lx10, bi_e0, bi_e1]
      rw [hf k c, hf S (andn_0.mpr (fun _ h => h)), show gdL s L S k = (decide (andn k S = 0) && decide ((fitL s L k).length = (fitL s L S).length)) from rfl, decide_eq_true c, Bool.true_and]
      by_cases d : (fitL s L k).length = (fitL s L S).length
      · rw [if_pos (by rw [d]), decide_eq_true d, Bool.true_and]
        by_cases f : pc k < pc (lst (gdL s L S) S k)
        · rw [if_pos (by rw [nn_lt (by omega) (by omega)]; exact f), decide_eq_true f, if_pos rfl]
        · rw [if_neg (by rw [nn_lt (by omega) (by omega)]; exact f), decide_eq_false f, if_neg (show ¬ (false = true) by decide)]
          by_cases g : pc k = pc (lst (gdL s L S) S k)
          · have : lst (gdL s L S) S k ≤ k := by
              rcases a with q | q
              · rw [q] at g
                have := (pc_sub (by omega) hS c).2 g
                omega
              · omega
            rw [if_pos (by rw [g]), if_pos (by rw [nn_le (by omega) (by omega)]; exact this)]
          · rw [if_neg (by rw [nn_eq (by omega) (by omega)]; exact g)]
      · rw [if_neg (by rw [nn_eq (by omega) (by omega)]; exact d), decide_eq_false d]
        rfl
    · rw [if_neg (by rw [show (0 : Int32) = nn 0 from rfl, nn_eq (by have := andn_le (a := k) (b := S); omega) (by omega)]; exact c), show gdL s L S k = (decide (andn k S = 0) && decide ((fitL s L k).length = (fitL s L S).length)) from rfl, decide_eq_false c]
      rfl
  · show f_X12_least_b19 (nn S) (nn (lst (gdL s L S) S N)) (nn N) h = _
    unfold f_X12_least_b19
    rw [if_pos (by rw [hN]; decide), qup_s]
