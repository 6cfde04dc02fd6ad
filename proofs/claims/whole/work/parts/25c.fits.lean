/-! WHICH LAYINGS FIT: the reference -/
def nSort (s : Sg) (m : Nat) : Nat := cN (s 10 m)
def inN (s : Sg) (m t q : Nat) : Bool := decide (srt s t = nSort s m) && tb (reg s m) q
def cR (s : Sg) (m : Nat) : List Nat → Nat
  | [] => 0
  | q :: st => cR s m st + (if inN s m st.length q then 1 else 0)
theorem cR_le {s : Sg} {m : Nat} : ∀ {l : List Nat}, cR s m l ≤ l.length
  | [] => Nat.le_refl _
  | q :: st => by
    have := cR_le (s := s) (m := m) (l := st)
    show cR s m st + _ ≤ st.length + 1
    split <;> omega
def fitN (s : Sg) (m : Nat) (l : List Nat) : Bool := if 0 ≤ (s 11 m).toInt then decide ((cR s m l : Int) ≤ (s 11 m).toInt) else decide (0 < cR s m l)
def fitS (s : Sg) (S : Nat) (l : List Nat) : Nat := nmk (fun m => S.testBit m && fitN s m l) (gT s)
def fitA (s : Sg) (S : Nat) (l : List Nat) : Bool := decide (∀ m, m < gT s → S.testBit m = true → fitN s m l = true)
theorem fitS_eq {s : Sg} {S : Nat} {l : List Nat} (hS : S < 2 ^ gT s) : (fitS s S l = S) ↔ fitA s S l = true := by
  unfold fitA
  rw [decide_eq_true_eq]
  constructor
  · intro e m hm hb
    have : (fitS s S l).testBit m = S.testBit m := by rw [e]
    unfold fitS at this
    rw [nmk_tb, decide_eq_true hm, hb, Bool.true_and, Bool.true_and] at this
    exact this
  · intro h
    apply Nat.eq_of_testBit_eq
    intro i
    unfold fitS
    rw [nmk_tb]
    by_cases c : i < gT s
    · rw [decide_eq_true c, Bool.true_and]
      rcases mb2 (S.testBit i) with e | e
      · rw [h i c e, e]; rfl
      · rw [e]; rfl
    · rw [decide_eq_false c, Nat.testBit_lt_two_pow (Nat.lt_of_lt_of_le hS (Nat.pow_le_pow_right (by omega) (by omega)))]
      rfl
theorem WF.ns {s : Sg} (w : WF s) {m : Nat} (h : m < gT s) : s 10 m = nn (nSort s m) ∧ nSort s m < gS s ∧ -1 ≤ (s 11 m).toInt ∧ (s 11 m).toInt ≤ 3 := by
  obtain ⟨a1, a2, a3, a4, a5, a6, a7, a8⟩ := w.2.2.2.2.2.1 m h
  exact ⟨(inr_nn a5 (by omega)).1, a6, a7, a8⟩
theorem cnt_stk {P : Nat → Nat → Bool} {r : Nat → Int32} {f : List Nat → Nat} (h0 : f [] = 0) (h1 : ∀ q st, f (q :: st) = f st + (if P st.length q then 1 else 0)) : ∀ {st : List Nat}, stk r st → lt36 st → cnt (fun o => P o (cN (r o))) st.length = f st
  | [], _, _ => h0.symm
  | a :: st, h, l => by
    show cnt _ st.length + (if P st.length (cN (r st.length)) = true then 1 else 0) = _
    rw [cnt_stk h0 h1 h.2 l.2, h.1, cN_nn (by have := l.1; omega), h1]
/-- the state that the reference's counts rest on -/
def RN (h : qa_M) : Prop := WF (sg h) ∧ ∀ k, k + 1 = gL (sg h) → WL (lw h k)
theorem r_fitsNote {L : Nat → Lw} {h : qa_M} (w : WF (sg h)) (rp : RP (sg h) L h) {l : List Nat} (hl : l.length = nT (sg h)) (hs : stk (h.1 151) l) (h36 : lt36 l) {m : Nat} (hm : m < gT (sg h)) : m_X12_fitsNote (nn m) h = some (bi (fitN (sg h) m l), h) := by
  have hn := w.n
  have l10 := w.t.2
  have l4 := w.s.2
  obtain ⟨n1, n2, n3, n4⟩ := w.ns hm
  have e10 : h.1 130 m = nn (nSort (sg h) m) := n1
  have e11 : h.1 131 m = sg h 11 m := rfl
  have hcn : cnt (fun o => inN (sg h) m o (cN (h.1 151 o))) (nT (sg h)) = cR (sg h) m l := by
    rw [← hl]
    exact cnt_stk (f := cR (sg h) m) rfl (fun q st => rfl) hs h36
  have hcl := cR_le (s := sg h) (m := m) (l := l)
  unfold m_X12_fitsNote f_X12_fitsNote_b4_loop
  simp only [qbd_e]
  refine qlp_for0 (fun k => (nn m, nn (cnt (fun o => inN (sg h) m o (cN (h.1 151 o))) k), nn k, h)) (nT (sg h)) ?_ ?_
  · intro k hk
    obtain ⟨a, ha, ea⟩ := stk_at hs h36 k (by omega)
    have sk := srt_lt hk
    show f_X12_fitsNote_b4 (nn m) _ (nn k) h = _
    unfold f_X12_fitsNote_b4
    rw [rp.1, if_neg (fun q => by rw [nn_le (by omega) (by omega)] at q; omega)]
    simp (disch := first | omega | decide) only [qbn_x, qbv_x, qup_x, qbd_x, qck_nn, qck_ok, nn_cl, nn_add1, lx0, lx1, lx2, lx3, lx4, lx5, lx6, lx7, lx8, lx9, lx10, bi_e0, bi_e1]
    rw [rp.2.1 k hk, e10, ea, rp.2.2.2.2 m hm, r_has (by omega), qbn_s]
    unfold f_X12_fitsNote_b50 f_X12_fitsNote_b51
    have hi : inN (sg h) m k (cN (h.1 151 k)) = (decide (srt (sg h) k = nSort (sg h) m) && tb (reg (sg h) m) a) := by
      unfold inN
      rw [ea, cN_nn (by omega)]
    by_cases c : srt (sg h) k = nSort (sg h) m
    · rw [if_pos (by rw [c])]
      rw [decide_eq_true c, Bool.true_and] at hi
      rcases mb2 (tb (reg (sg h) m) a) with e | e
      · rw [e, if_neg (by decide), cnt_t (p := fun o => inN (sg h) m o (cN (h.1 151 o))) (by rw [hi, e]), qbd_e, qbd_e, nn_add1, nn_add1]
      · rw [e, if_pos (by decide), cnt_f (p := fun o => inN (sg h) m o (cN (h.1 151 o))) (by rw [hi, e]), qbd_e, qbd_e, nn_add0, nn_add1]
    · rw [if_neg (by rw [nn_eq (by omega) (by omega)]; exact c), cnt_f (p := fun o => inN (sg h) m o (cN (h.1 151 o))) (by rw [hi, decide_eq_false c]; rfl), qbd_e, qbd_e, nn_add0, nn_add1]
  · show f_X12_fitsNote_b4 (nn m) _ (nn (nT (sg h))) h = _
    unfold f_X12_fitsNote_b4 f_X12_fitsNote_b59
    rw [rp.1, if_pos ((nn_le (by omega) (by omega)).mpr (by omega)), hcn]
    simp (disch := first | omega | decide) only [qbn_x, qbv_x, qup_x, qbd_x, qck_nn, qck_ok, nn_cl, nn_add1, lx0, lx1, lx2, lx3, lx4, lx5, lx6, lx7, lx8, lx9, lx10, bi_e0, bi_e1]
    rw [e11]
    unfold fitN
    have z : (0 : Int32).toInt = 0 := rfl
    by_cases c : 0 ≤ (sg h 11 m).toInt
    · rw [if_pos (by rw [Int32.le_iff_toInt_le]; omega), if_pos c]
      by_cases d : (cR (sg h) m l : Int) ≤ (sg h 11 m).toInt
      · rw [if_neg (by rw [Int32.lt_iff_toInt_lt, nn_toInt (by omega)]; omega), decide_eq_true d, qup_s]; rfl
      · rw [if_pos (by rw [Int32.lt_iff_toInt_lt, nn_toInt (by omega)]; omega), decide_eq_false d, qup_s]; rfl
    · rw [if_neg (by rw [Int32.le_iff_toInt_le]; omega), if_neg c]
      by_cases d : 0 < cR (sg h) m l
      · rw [if_neg (by rw [show (0 : Int32) = nn 0 from rfl, nn_le (by omega) (by omega)]; omega), decide_eq_true d, qup_s]; rfl
      · rw [if_pos (by rw [show (0 : Int32) = nn 0 from rfl, nn_le (by omega) (by omega)]; omega), decide_eq_false d, qup_s]; rfl
theorem nmk_or {p : Nat → Bool} {k : Nat} : nmk p k ||| (if p k then 2 ^ k else 0) = nmk p (k + 1) := by
  apply Nat.eq_of_testBit_eq
  intro i
  rw [Nat.testBit_or, nmk_tb, nmk_tb]
  by_cases e : i = k
  · subst e
    cases p i <;> simp
  · have : (if p k = true then 2 ^ k else 0).testBit i = false := by
      split
      · rw [Nat.testBit_two_pow, decide_eq_false (by omega)]
      · simp
    rw [this, Bool.or_false, show decide (i < k + 1) = decide (i < k) by rw [decide_eq_decide]; omega]
theorem r_fitsOf {L : Nat → Lw} {h : qa_M} (w : WF (sg h)) (rp : RP (sg h) L h) {l : List Nat} (hl : l.length = nT (sg h)) (hs : stk (h.1 151) l) (h36 : lt36 l) {S : Nat} (hS : S < 2147483648) : m_X12_fitsOf (nn S) h = some (nn (fitS (sg h) S l), h) := by
  have l10 := w.t.2
  have e5 : h.1 120 5 = nn (gT (sg h)) := w.t.1
  unfold m_X12_fitsOf f_X12_fitsOf_b4_loop fitS
  simp only [qbd_e]
  refine qlp_for0 (fun k => (nn S, nn (nmk (fun m => S.testBit m && fitN (sg h) m l) k), nn k, h)) (gT (sg h)) ?_ ?_
  · intro k hk
    show f_X12_fitsOf_b4 (nn S) _ (nn k) h = _
    unfold f_X12_fitsOf_b4
    simp (disch := first | omega | decide) only [qbn_x, qbv_x, qup_x, qbd_x, qck_nn, qck_ok, nn_cl, nn_add1, lx0, lx1, lx2, lx3, lx4, lx5, lx6, lx7, lx8, lx9, lx10, bi_e0, bi_e1]
    rw [e5, if_neg (fun q => by rw [nn_le (by omega) (by omega)] at q; omega), r_has32 hS (by omega), qbn_s, r_fitsNote w rp hl hs h36 hk, qbn_s, nn_sh1 (by omega), ← nmk_or]
    unfold f_X12_fitsOf_b38 f_X12_fitsOf_b39
    rcases mb2 (S.testBit k) with a | a
    · rw [a, if_neg (by decide), Bool.true_and]
      rcases mb2 (fitN (sg h) k l) with b | b
      · rw [b, if_neg (by decide), if_pos rfl, qbd_e, qbd_e, nn_or, nn_add1]
      · rw [b, if_pos (by decide), if_neg (by decide), qbd_e, qbd_e, show (0 : Int32) = nn 0 from rfl, nn_or, nn_add1]
    · rw [a, if_pos (by decide), Bool.false_and, if_neg (by decide), qbd_e, qbd_e, show (0 : Int32) = nn 0 from rfl, nn_or, nn_add1]
  · show f_X12_fitsOf_b4 (nn S) _ (nn (gT (sg h))) h = _
    unfold f_X12_fitsOf_b4
    simp (disch := first | omega | decide) only [qbn_x, qbv_x, qup_x, qbd_x, qck_nn, qck_ok, nn_cl, nn_add1, lx0, lx1, lx2, lx3, lx4, lx5, lx6, lx7, lx8, lx9, lx10, bi_e0, bi_e1]
    rw [e5, if_pos ((nn_le (by omega) (by omega)).mpr (by omega))]
/-- where the reference stands among the layings that fit -/
def GyS (s : Sg) (L : Nat → Lw) (S : Nat) (F : List (List Nat)) (h : qa_M) : Prop := ∃ R, LyS s L R h ∧ R.filter (fitA s S) = F
theorem sg_ly {h g : qa_M} (f : qfr [(119, 50), (151, 0)] h g) : sg g = sg h := sg_fr f (fun b j h1 h2 => by unfold inW; simp; omega)
theorem lw_ly {h g : qa_M} (f : qfr [(119, 50), (151, 0)] h g) : lw g = lw h := lw_fr f (fun b j h1 h2 => by unfold inW; simp; omega)
theorem r_goesTo {s : Sg} {L : Nat → Lw} {h : qa_M} (w : WF s) (wl : ∀ k, k + 1 = gL s → WL (L k)) (hs : sg h = s) {S : Nat} (hS : S < 2 ^ gT s) {F : List (List Nat)} (gs : GyS s L S F h) :
    qW (m_X12_goesTo (nn S) h) (fun z => (z.1 = 0 ∧ F = []) ∨ (z.1 = 1 ∧ ∃ l F2, F = l :: F2 ∧ GyS s L S F2 z.2 ∧ l.length = nT s ∧ stk (z.2.1 151) l ∧ good (okA s L) l)) := by
  obtain ⟨R, ls, hF⟩ := gs
  have l10 := w.t.2
  have hS31 : S < 2147483648 := by
    have : 2 ^ gT s ≤ 2 ^ 10 := Nat.pow_le_pow_right (by omega) l10
    omega
  unfold m_X12_goesTo
  rw [qW_bn]
  refine qW_fr (r_laysOn w wl ls) (fun z e => fr_X12_laysOn _ e) ?_
  rintro ⟨v, g⟩ hz fg
  have fg : qfr [(119, 50), (151, 0)] h g := fg
  dsimp only at hz ⊢
  rw [qbd_e]
  unfold f_X12_goesTo_b5_loop
  have main : ∀ (R : List (List Nat)) (t : Int32 × Int32 × qa_M), (R.filter (fitA s S) = F ∧ t.1 = nn S ∧ qfr [(119, 50), (151, 0)] h t.2.2 ∧ ((t.2.1 = 0 ∧ R = []) ∨ (t.2.1 = 1 ∧ ∃ l R2, R = l :: R2 ∧ LyS s L R2 t.2.2 ∧ l.length = nT s ∧ stk (t.2.2.1 151) l ∧ good (okA s L) l))) →
      qW (qlp (fun sz : Int32 × Int32 × qa_M => f_X12_goesTo_b5 sz.1 sz.2.1 sz.2.2) t) (fun z => (z.1 = 0 ∧ F = []) ∨ (z.1 = 1 ∧ ∃ l F2, F = l :: F2 ∧ GyS s L S F2 z.2 ∧ l.length = nT s ∧ stk (z.2.1 151) l ∧ good (okA s L) l)) := by
    intro R
    induction R with
    | nil =>
      rintro ⟨a, b, c⟩ ⟨h1, h2, h3, ⟨h4, -⟩ | ⟨-, l, R2, e, -⟩⟩
      · dsimp only at h2 h3 h4
        subst h4
        refine qW_lpin ?_
        show qW (f_X12_goesTo_b5 a 0 c) _
        unfold f_X12_goesTo_b5
        rw [if_pos rfl, qpr_t (.inl rfl), qup_s, qW_some]
        exact .inl ⟨rfl, h1.symm⟩
      · cases e
    | cons l R ih =>
      rintro ⟨a, b, c⟩ ⟨h1, h2, h3, ⟨-, e⟩ | ⟨h4, l2, R2, e, q1, q2, q3, q4⟩⟩
      · cases e
      · cases e
        dsimp only at h2 h3 h4 q1 q3
        subst h2 h4
        have hsc : sg c = s := by rw [sg_ly h3, hs]
        refine qW_lpin ?_
        show qW (f_X12_goesTo_b5 (nn S) 1 c) _
        unfold f_X12_goesTo_b5
        rw [if_neg (by decide), r_fitsOf (by rw [hsc]; exact w) (L := L) (by rw [hsc]; exact q1.1) (by rw [hsc]; exact q2) q3 (good_lt q4) hS31, qbn_s, hsc]
        have fl : fitS s S l < 2147483648 := by
          have a := nmk_lt (p := fun m => S.testBit m && fitN s m l) (n := gT s)
          have : 2 ^ gT s ≤ 2 ^ 10 := Nat.pow_le_pow_right (by omega) l10
          unfold fitS
          omega
        rcases mb2 (fitA s S l) with ef | ef
        · rw [if_pos (by rw [(fitS_eq hS).mpr ef]), qpr_t (.inr rfl), qup_s, qW_some]
          rw [List.filter_cons_of_pos ef] at h1
          exact .inr ⟨rfl, l, _, h1.symm, ⟨R, q1, rfl⟩, q2, q3, q4⟩
        · rw [if_neg (by rw [nn_eq fl hS31, fitS_eq hS, ef]; decide), qW_bn]
          refine qW_fr (r_laysOn w wl q1) (fun z e => fr_X12_laysOn _ e) ?_
          rintro ⟨v2, g2⟩ hz2 fg2
          have fg2 : qfr [(119, 50), (151, 0)] c g2 := fg2
          dsimp only at hz2 ⊢
          rw [qbd_e, qW_some]
          rw [List.filter_cons_of_neg (by rw [ef]; decide)] at h1
          refine ih (nn S, v2, g2) ⟨h1, rfl, qfr_tr h3 fg2, ?_⟩
          rcases hz2 with ⟨z1, z2⟩ | ⟨z1, l3, R3, z2, z3, z4, z5, z6⟩
          · exact .inl ⟨z1, z2⟩
          · exact .inr ⟨z1, l3, R3, z2, z3, z4, z5, z6⟩
  refine main R (nn S, v, g) ⟨hF, rfl, fg, ?_⟩
  rcases hz with ⟨z1, z2⟩ | ⟨z1, l3, R3, z2, z3, z4, z5, z6⟩
  · exact .inl ⟨z1, z2⟩
  · exact .inr ⟨z1, l3, R3, z2, z3, z4, z5, z6⟩
/-- all layings, and those that fit a set -/
def allL (s : Sg) (L : Nat → Lw) : List (List Nat) := lays (okA s L) (nT s) []
def fitL (s : Sg) (L : Nat → Lw) (S : Nat) : List (List Nat) := (allL s L).filter (fitA s S)
theorem r_beginsG {h : qa_M} (w : WF (sg h)) (wl : ∀ k, k + 1 = gL (sg h) → WL (lw h k)) (S : Nat) : qW (m_X12_beginsLayings h) (fun g => GyS (sg h) (lw h) S (fitL (sg h) (lw h) S) g ∧ LyS (sg h) (lw h) (allL (sg h) (lw h)) g ∧ sg g = sg h ∧ lw g = lw h) := by
  refine qW_fr (r_begins w wl) (fun g e => fr_X12_beginsLayings _ e) ?_
  rintro g ⟨rp, b⟩ fg
  have ls : LyS (sg h) (lw h) (allL (sg h) (lw h)) g := ⟨rp, .inl ⟨b, rfl⟩⟩
  exact ⟨⟨_, ls, rfl⟩, ls, sg_fr fg (fun b j h1 h2 => by unfold inW w_X12_beginsLayings; simp; omega), lw_fr fg (fun b j h1 h2 => by unfold inW w_X12_beginsLayings; simp; omega)⟩
theorem r_manyFit {h : qa_M} (w : WF (sg h)) (wl : ∀ k, k + 1 = gL (sg h) → WL (lw h k)) {S : Nat} (hS : S < 2 ^ gT (sg h)) : qW (m_X12_manyFit (nn S) h) (fun z => z.1 = nn (fitL (sg h) (lw h) S).length) := by
  unfold m_X12_manyFit
  rw [qW_bv]
  refine qW_mono (r_beginsG w wl S) ?_
  rintro g ⟨gs, -, s1, s2⟩
  rw [qbd_e]
  unfold f_X12_manyFit_b6_loop
  refine qW_lst (fun rem t => ∃ g2 k, t = (nn S, nn k, g2) ∧ GyS (sg h) (lw h) S rem g2 ∧ sg g2 = sg h ∧ k + rem.length = (fitL (sg h) (lw h) S).length) ?_ ?_ _ _ ⟨g, 0, rfl, gs, s1, by omega⟩
  · rintro l rem t ⟨g2, k, rfl, g3, hs, hk⟩
    show qW (f_X12_manyFit_b6 (nn S) (nn k) g2) _
    unfold f_X12_manyFit_b6
    rw [qW_bn]
    refine qW_fr (r_goesTo w wl hs hS g3) (fun z e => fr_X12_goesTo _ _ e) ?_
    rintro ⟨v, g4⟩ hz fg
    have fg : qfr [(119, 50), (151, 0)] g2 g4 := fg
    dsimp only at hz ⊢
    rcases hz with ⟨-, e⟩ | ⟨rfl, l2, F2, e, q1, q2, q3, q4⟩
    · cases e
    · cases e
      rw [if_neg (by decide), qbd_e, nn_add1, qW_some]
      exact ⟨g4, k + 1, rfl, q1, by rw [sg_ly fg, hs], by simp at hk; omega⟩
  · rintro t ⟨g2, k, rfl, g3, hs, hk⟩
    show qW (f_X12_manyFit_b6 (nn S) (nn k) g2) _
    unfold f_X12_manyFit_b6
    rw [qW_bn]
    refine qW_mono (r_goesTo w wl hs hS g3) ?_
    rintro ⟨v, g4⟩ hz
    dsimp only at hz ⊢
    rcases hz with ⟨rfl, -⟩ | ⟨-, l2, F2, e, -⟩
    · rw [if_pos rfl, qup_s, qW_some]
      exact congrArg nn (by simpa using hk)
    · cases e
