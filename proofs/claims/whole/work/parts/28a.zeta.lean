/-! SUMS OVER SUPERSETS -/
def mt (i T k : Nat) : Bool := alF (fun j => if j < i then (!T.testBit j || k.testBit j) else decide (T.testBit j = k.testBit j)) 0 10
def zt (K : List Nat) (i T : Nat) : Nat := K.countP (mt i T)
theorem countP_add {α : Type} {p q r : α → Bool} {D : List α} (h : ∀ l, l ∈ D → (if p l then 1 else 0) = (if q l then 1 else 0) + (if r l then 1 else 0)) : D.countP p = D.countP q + D.countP r := by
  induction D with
  | nil => rfl
  | cons l D ih =>
    rw [List.countP_cons, List.countP_cons, List.countP_cons, ih (fun x hx => h x (List.mem_cons_of_mem _ hx)), h l List.mem_cons_self]
    omega
theorem mt_iff {i T k : Nat} : mt i T k = true ↔ ∀ j, j < 10 → (if j < i then (T.testBit j = true → k.testBit j = true) else T.testBit j = k.testBit j) := by
  unfold mt
  rw [alF_iff]
  constructor
  · intro h j hj
    have := h j (by omega) (by omega)
    by_cases c : j < i
    · rw [if_pos c] at this ⊢
      intro q
      rw [q] at this
      exact this
    · rw [if_neg c] at this ⊢
      exact of_decide_eq_true this
  · intro h j _ hj
    have := h j (by omega)
    by_cases c : j < i
    · rw [if_pos c] at this ⊢
      rcases mb2 (T.testBit j) with e | e
      · rw [e, this e]; rfl
      · rw [e]; rfl
    · rw [if_neg c] at this ⊢
      exact decide_eq_true this
theorem mt_bit {i T k : Nat} (hb : T.testBit i = true) : mt (i + 1) T k = mt i T k := by
  rw [Bool.eq_iff_iff, mt_iff, mt_iff]
  constructor
  · intro h j hj
    have := h j hj
    by_cases c : j < i
    · rw [if_pos c]; rw [if_pos (by omega)] at this; exact this
    · rw [if_neg c]
      by_cases c2 : j = i
      · subst c2
        rw [if_pos (by omega)] at this
        rw [this hb, hb]
      · rw [if_neg (by omega)] at this; exact this
  · intro h j hj
    have := h j hj
    by_cases c : j < i
    · rw [if_pos (by omega)]; rw [if_pos c] at this; exact this
    · rw [if_neg c] at this
      by_cases c2 : j = i
      · subst c2
        rw [if_pos (by omega)]
        intro _
        rw [← this, hb]
      · rw [if_neg (by omega)]; exact this
theorem or_bit {T i j : Nat} : (T ||| 2 ^ i).testBit j = (T.testBit j || decide (i = j)) := by rw [Nat.testBit_or, Nat.testBit_two_pow]
theorem mt_add {i T k : Nat} (hi : i < 10) (hb : T.testBit i = false) : (if mt (i + 1) T k = true then 1 else 0) = (if mt i T k = true then 1 else 0) + (if mt i (T ||| 2 ^ i) k = true then 1 else 0) := by
  have h1 : mt (i + 1) T k = true ↔ (mt i T k = true ∨ mt i (T ||| 2 ^ i) k = true) := by
    rw [mt_iff, mt_iff, mt_iff]
    constructor
    · intro h
      rcases mb2 (k.testBit i) with e | e
      · right
        intro j hj
        have := h j hj
        rw [or_bit]
        by_cases c : i = j
        · subst c
          rw [if_neg (by omega), e, decide_eq_true rfl, Bool.or_true]
        · rw [decide_eq_false c, Bool.or_false]
          by_cases d : j < i
          · rw [if_pos d]; rw [if_pos (by omega)] at this; exact this
          · rw [if_neg d]; rw [if_neg (by omega)] at this; exact this
      · left
        intro j hj
        have := h j hj
        by_cases c : i = j
        · subst c
          rw [if_neg (by omega), e, hb]
        · by_cases d : j < i
          · rw [if_pos d]; rw [if_pos (by omega)] at this; exact this
          · rw [if_neg d]; rw [if_neg (by omega)] at this; exact this
    · rintro (h | h)
      · intro j hj
        have := h j hj
        by_cases c : i = j
        · subst c
          rw [if_pos (by omega), hb]
          intro q; cases q
        · by_cases d : j < i
          · rw [if_pos (by omega)]; rw [if_pos d] at this; exact this
          · rw [if_neg (by omega)]; rw [if_neg d] at this; exact this
      · intro j hj
        have := h j hj
        rw [or_bit] at this
        by_cases c : i = j
        · subst c
          rw [if_pos (by omega), hb]
          intro q; cases q
        · rw [decide_eq_false c, Bool.or_false] at this
          by_cases d : j < i
          · rw [if_pos (by omega)]; rw [if_pos d] at this; exact this
          · rw [if_neg (by omega)]; rw [if_neg d] at this; exact this
  have h2 : ¬ (mt i T k = true ∧ mt i (T ||| 2 ^ i) k = true) := by
    rw [mt_iff, mt_iff]
    rintro ⟨a, b⟩
    have a := a i hi
    have b := b i hi
    rw [if_neg (by omega)] at a b
    rw [or_bit, decide_eq_true rfl, Bool.or_true] at b
    rw [hb] at a
    rw [← a] at b
    cases b
  by_cases a : mt i T k = true
  · rw [if_pos (h1.mpr (.inl a)), if_pos a, if_neg (fun b => h2 ⟨a, b⟩)]
  · by_cases b : mt i (T ||| 2 ^ i) k = true
    · rw [if_pos (h1.mpr (.inr b)), if_neg a, if_pos b]
    · rw [if_neg (fun q => (h1.mp q).elim a b), if_neg a, if_neg b]
theorem zt_bit {K : List Nat} {i T : Nat} (hb : T.testBit i = true) : zt K (i + 1) T = zt K i T := by
  unfold zt
  congr 1
  funext k
  exact mt_bit hb
theorem zt_add {K : List Nat} {i T : Nat} (hi : i < 10) (hb : T.testBit i = false) : zt K (i + 1) T = zt K i T + zt K i (T ||| 2 ^ i) := countP_add (fun _ _ => mt_add hi hb)
theorem or_lt {T i : Nat} (hT : T < 1024) (hi : i < 10) : T ||| 2 ^ i < 1024 := by
  have : 2 ^ i < 2 ^ 10 := Nat.pow_lt_pow_right (by omega) hi
  exact Nat.or_lt_two_pow (n := 10) hT this
theorem or_self {T i : Nat} (hb : T.testBit i = false) : T < T ||| 2 ^ i := by
  have h1 : T ≤ T ||| 2 ^ i := Nat.left_le_or
  rcases Nat.eq_or_lt_of_le h1 with e | e
  · have : (T ||| 2 ^ i).testBit i = T.testBit i := by rw [← e]
    rw [or_bit, decide_eq_true rfl, Bool.or_true, hb] at this
    cases this
  · exact e
theorem mt_0 {T k : Nat} (hT : T < 1024) (hk : k < 1024) : mt 0 T k = decide (k = T) := by
  rw [Bool.eq_iff_iff, mt_iff, decide_eq_true_eq]
  constructor
  · intro h
    apply Nat.eq_of_testBit_eq
    intro j
    by_cases c : j < 10
    · have := h j c
      rw [if_neg (by omega)] at this
      exact this.symm
    · rw [Nat.testBit_lt_two_pow (x := k) (Nat.lt_of_lt_of_le hk (Nat.pow_le_pow_right (n := 2) (i := 10) (by omega) (by omega))), Nat.testBit_lt_two_pow (x := T) (Nat.lt_of_lt_of_le hT (Nat.pow_le_pow_right (n := 2) (i := 10) (by omega) (by omega)))]
  · rintro rfl j _
    rw [if_neg (by omega)]
/-- the class's sums -/
theorem k_addSupersets {h : qa_M} {K : List Nat} (h0 : ∀ T, T < 1024 → h.1 35 T = nn (zt K 0 T)) : qW (m_X1_addSupersets h) (fun g => ∀ T, T < 1024 → g.1 35 T = nn (zt K 10 T)) := by
  unfold m_X1_addSupersets
  rw [qbd_e]
  unfold f_X1_addSupersets_b2_loop
  refine qW_for 10 (fun i t => ∃ g, t = (nn i, g) ∧ ∀ T, T < 1024 → g.1 35 T = nn (zt K i T)) ?_ ?_ (by omega : 0 ≤ 10) ⟨h, rfl, h0⟩
  · rintro i t hi ⟨g, rfl, hg⟩
    show qW (f_X1_addSupersets_b2 (nn i) g) _
    unfold f_X1_addSupersets_b2
    rw [if_neg (by rw [show (10 : Int32) = nn 10 from rfl, nn_le (by omega) (by omega)]; omega), qbd_e]
    unfold f_X1_addSupersets_b10_loop
    refine qW_for 1024 (fun U t => ∃ g, t = (nn i, nn U, g) ∧ ∀ T, T < 1024 → g.1 35 T = nn (zt K (if T < U then i + 1 else i) T)) ?_ ?_ (by omega : 0 ≤ 1024) ⟨g, rfl, fun T hT => by rw [if_neg (by omega)]; exact hg T hT⟩
    · rintro U t hU ⟨g2, rfl, hg2⟩
      show qW (f_X1_addSupersets_b10 (nn i) (nn U) g2) _
      unfold f_X1_addSupersets_b10 f_X1_addSupersets_b44
      rw [if_neg (by rw [show (1024 : Int32) = nn 1024 from rfl, nn_le (by omega) (by omega)]; omega), nn_bit i hi U hU]
      rcases mb2 (U.testBit i) with e | e
      · rw [e, if_neg (by decide), qbd_e, nn_add1, qW_some]
        refine ⟨g2, rfl, fun T hT => ?_⟩
        rw [hg2 T hT]
        by_cases c : T < U
        · rw [if_pos c, if_pos (by omega)]
        · rw [if_neg c]
          by_cases c2 : T = U
          · subst c2
            rw [if_pos (by omega), zt_bit e]
          · rw [if_neg (by omega)]
      · have o1 := or_lt hU hi
        have o2 := or_self e
        rw [e, if_pos (by decide), nn_sh1 (by omega), nn_or]
        simp (disch := first | omega | decide) only [qbn_x, qbv_x, qup_x, qbd_x, qck_nn, qck_ok, nn_cl, nn_add1, lx0, lx1, lx2, lx3, lx4, lx5, lx6, lx7, lx8, lx9, lx10, bi_e0, bi_e1]
        rw [hg2 U hU, hg2 _ o1, if_neg (by omega), if_neg (by omega), nn_add, ← zt_add hi e, qW_some]
        refine ⟨_, rfl, fun T hT => ?_⟩
        by_cases c : T = U
        · subst c
          rw [wI_at, if_pos (by omega)]
        · rw [wI_ne (fun q => c q.2), hg2 T hT]
          by_cases c2 : T < U
          · rw [if_pos c2, if_pos (by omega)]
          · rw [if_neg c2, if_neg (by omega)]
    · rintro t ⟨g2, rfl, hg2⟩
      show qW (f_X1_addSupersets_b10 (nn i) (nn 1024) g2) _
      unfold f_X1_addSupersets_b10 f_X1_addSupersets_b50
      rw [if_pos (by decide), qbd_e, nn_add1, qup_s, qW_some]
      exact ⟨g2, rfl, fun T hT => by rw [hg2 T hT, if_pos hT]⟩
  · rintro t ⟨g, rfl, hg⟩
    show qW (f_X1_addSupersets_b2 (nn 10) g) _
    unfold f_X1_addSupersets_b2
    rw [if_pos (by decide), qup_s, qW_some]
    exact hg
/-- the reference's sums -/
theorem r_zeta {h : qa_M} {K : List Nat} (h0 : ∀ T, T < 1024 → h.1 157 T = nn (zt K 0 T)) : qW (f_X12_fillsFitting_b50 h) (fun g => ∀ T, T < 1024 → g.1 157 T = nn (zt K 10 T)) := by
  unfold f_X12_fillsFitting_b50
  rw [qbd_e]
  unfold f_X12_fillsFitting_b52_loop
  refine qW_for 10 (fun i t => ∃ g, t = (nn i, g) ∧ ∀ T, T < 1024 → g.1 157 T = nn (zt K i T)) ?_ ?_ (by omega : 0 ≤ 10) ⟨h, rfl, h0⟩
  · rintro i t hi ⟨g, rfl, hg⟩
    show qW (f_X12_fillsFitting_b52 (nn i) g) _
    unfold f_X12_fillsFitting_b52
    rw [if_neg (by rw [show (10 : Int32) = nn 10 from rfl, nn_le (by omega) (by omega)]; omega), qbd_e]
    unfold f_X12_fillsFitting_b60_loop
    refine qW_for 1024 (fun U t => ∃ g, t = (nn i, nn U, g) ∧ ∀ T, T < 1024 → g.1 157 T = nn (zt K (if T < U then i + 1 else i) T)) ?_ ?_ (by omega : 0 ≤ 1024) ⟨g, rfl, fun T hT => by rw [if_neg (by omega)]; exact hg T hT⟩
    · rintro U t hU ⟨g2, rfl, hg2⟩
      show qW (f_X12_fillsFitting_b60 (nn i) (nn U) g2) _
      unfold f_X12_fillsFitting_b60 f_X12_fillsFitting_b97
      rw [if_neg (by rw [show (1024 : Int32) = nn 1024 from rfl, nn_le (by omega) (by omega)]; omega), r_has32 (by omega) (by omega)]
      simp (disch := first | omega | decide) only [qbn_x, qbv_x, qup_x, qbd_x, qck_nn, qck_ok, nn_cl, nn_add1, lx0, lx1, lx2, lx3, lx4, lx5, lx6, lx7, lx8, lx9, lx10, bi_e0, bi_e1]
      rcases mb2 (U.testBit i) with e | e
      · rw [e, if_neg (by decide), hg2 U hU, if_neg (by omega), nn_add0, qW_some]
        refine ⟨_, rfl, fun T hT => ?_⟩
        by_cases c : T = U
        · subst c
          rw [wI_at, if_pos (by omega), zt_bit e]
        · rw [wI_ne (fun q => c q.2), hg2 T hT]
          by_cases c2 : T < U
          · rw [if_pos c2, if_pos (by omega)]
          · rw [if_neg c2, if_neg (by omega)]
      · have o1 := or_lt hU hi
        have o2 := or_self e
        rw [e, if_pos rfl, nn_sh1 (by omega), nn_or]
        simp (disch := first | omega | decide) only [qbn_x, qbv_x, qup_x, qbd_x, qck_nn, qck_ok, nn_cl, nn_add1, lx0, lx1, lx2, lx3, lx4, lx5, lx6, lx7, lx8, lx9, lx10, bi_e0, bi_e1]
        rw [hg2 U hU, hg2 _ o1, if_neg (by omega), if_neg (by omega), nn_add, ← zt_add hi e, qW_some]
        refine ⟨_, rfl, fun T hT => ?_⟩
        by_cases c : T = U
        · subst c
          rw [wI_at, if_pos (by omega)]
        · rw [wI_ne (fun q => c q.2), hg2 T hT]
          by_cases c2 : T < U
          · rw [if_pos c2, if_pos (by omega)]
          · rw [if_neg c2, if_neg (by omega)]
    · rintro t ⟨g2, rfl, hg2⟩
      show qW (f_X12_fillsFitting_b60 (nn i) (nn 1024) g2) _
      unfold f_X12_fillsFitting_b60 f_X12_fillsFitting_b105
      rw [if_pos (by decide), qbd_e, nn_add1, qup_s, qW_some]
      exact ⟨g2, rfl, fun T hT => by rw [hg2 T hT, if_pos hT]⟩
  · rintro t ⟨g, rfl, hg⟩
    show qW (f_X12_fillsFitting_b52 (nn 10) g) _
    unfold f_X12_fillsFitting_b52
    rw [if_pos (by decide), qup_s, qW_some]
    exact hg
theorem fitS_lt {s : Sg} {S : Nat} {l : List Nat} (w : WF s) : fitS s S l < 1024 := by
  have a := nmk_lt (p := fun m => S.testBit m && fitN s m l) (n := gT s)
  have : 2 ^ gT s ≤ 2 ^ 10 := Nat.pow_le_pow_right (by omega) w.t.2
  unfold fitS
  omega
theorem zt_snoc0 {K : List Nat} {k T : Nat} (hT : T < 1024) (hk : k < 1024) : zt (K ++ [k]) 0 T = zt K 0 T + (if k = T then 1 else 0) := by
  unfold zt
  rw [countP_snoc, mt_0 hT hk]
  simp
theorem LyS_fr {s : Sg} {L : Nat → Lw} {R : List (List Nat)} {h g : qa_M} (ls : LyS s L R h) (f : qfr [(157, 0)] h g) : LyS s L R g := by
  obtain ⟨⟨a, b, c, d, e⟩, hR⟩ := ls
  refine ⟨⟨?_, fun t ht => ?_, fun x y hx hy => ?_, fun i hi => ?_, fun m hm => ?_⟩, ?_⟩
  · rw [(f.1 119 48 rfl).1]; exact a
  · rw [(f.1 152 t rfl).1]; exact b t ht
  · rw [(f.1 153 _ rfl).1]; exact c x y hx hy
  · rw [(f.1 154 i rfl).2.1]; exact d i hi
  · rw [(f.1 155 m rfl).2.1]; exact e m hm
  · have q1 : g.1 119 49 = h.1 119 49 := (f.1 119 49 rfl).1
    have q2 : g.1 151 = h.1 151 := by funext j; exact (f.1 151 j rfl).1
    rw [q1, q2]
    exact hR
theorem r_fillsFitting {h : qa_M} (w : WF (sg h)) (wl : ∀ k, k + 1 = gL (sg h) → WL (lw h k)) {S : Nat} (hS : S < 2147483648) :
    qW (m_X12_fillsFitting (nn S) h) (fun g => ∀ T, T < 1024 → g.1 157 T = nn (zt ((allL (sg h) (lw h)).map (fitS (sg h) S)) 10 T)) := by
  unfold m_X12_fillsFitting
  rw [qbd_e]
  unfold f_X12_fillsFitting_b2_loop
  refine qW_for 1024 (fun k t => ∃ g, t = (nn S, nn k, g) ∧ qfr [(157, 0)] h g ∧ ∀ T, T < k → g.1 157 T = 0) ?_ ?_ (by omega : 0 ≤ 1024) ⟨h, rfl, qfr_rf, fun T hT => by omega⟩
  · rintro k t hk ⟨g, rfl, fg, hg⟩
    show qW (f_X12_fillsFitting_b2 (nn S) (nn k) g) _
    unfold f_X12_fillsFitting_b2
    rw [if_neg (by rw [show (1024 : Int32) = nn 1024 from rfl, nn_le (by omega) (by omega)]; omega), qck_nn hk (by omega), nn_cl (by omega), qbd_e, qbd_e, nn_add1, qW_some]
    refine ⟨_, rfl, qfr_I0 rfl (by simp) fg, fun T hT => ?_⟩
    by_cases c : T = k
    · subst c; exact wI_at
    · rw [wI_ne (fun q => c q.2)]; exact hg T (by omega)
  · rintro t ⟨g, rfl, fg, hg⟩
    show qW (f_X12_fillsFitting_b2 (nn S) (nn 1024) g) _
    unfold f_X12_fillsFitting_b2 f_X12_fillsFitting_b22
    rw [if_pos (by decide), qW_up, qW_bv]
    have hsg : sg g = sg h := sg_fr fg (fun b j h1 h2 => by unfold inW; simp; omega)
    have hlw : lw g = lw h := lw_fr fg (fun b j h1 h2 => by unfold inW; simp; omega)
    refine qW_fr (r_beginsG (h := g) (by rw [hsg]; exact w) (by rw [hsg, hlw]; exact wl) 0) (fun g e => fr_X12_beginsLayings _ e) ?_
    rintro g1 ⟨-, ls, s1, s2⟩ f1
    have f1 : qfr w_X12_beginsLayings g g1 := f1
    rw [hsg, hlw] at ls
    rw [hsg] at s1
    rw [hlw] at s2
    obtain ⟨s, hs0⟩ : ∃ s, s = sg h := ⟨_, rfl⟩
    obtain ⟨L, hL0⟩ : ∃ L, L = lw h := ⟨_, rfl⟩
    rw [← hs0] at w wl s1 ls ⊢
    rw [← hL0] at wl ls ⊢
    unfold f_X12_fillsFitting_b26_loop
    refine qW_lst (fun rem t => ∃ g D, t = (nn S, g) ∧ LyS s L rem g ∧ sg g = s ∧ D ++ rem = allL s L ∧ ∀ T, T < 1024 → g.1 157 T = nn (zt (D.map (fitS s S)) 0 T)) ?_ ?_ _ _ ⟨g1, [], rfl, ls, s1, rfl, fun T hT => by rw [(f1.1 157 T rfl).1, hg T hT]; rfl⟩
    · rintro l rem t ⟨g, D, rfl, ls, hs, hD, hg⟩
      show qW (f_X12_fillsFitting_b26 (nn S) g) _
      unfold f_X12_fillsFitting_b26
      rw [qW_bn]
      refine qW_fr (r_laysOn w wl ls) (fun z e => fr_X12_laysOn _ e) ?_
      rintro ⟨v, g2⟩ hz fg
      have fg : qfr [(119, 50), (151, 0)] g g2 := fg
      dsimp only at hz ⊢
      rcases hz with ⟨-, e⟩ | ⟨rfl, l2, F2, e, q1, q2, q3, q4⟩
      · cases e
      · cases e
        have hs2 : sg g2 = s := by rw [sg_ly fg, hs]
        have fl := fitS_lt (S := S) (l := l) w
        rw [if_neg (by decide), r_fitsOf (by rw [hs2]; exact w) (L := L) (by rw [hs2]; exact q1.1) (by rw [hs2]; exact q2) q3 (good_lt q4) hS, qbn_s, hs2]
        simp (disch := first | omega | decide) only [qbn_x, qbv_x, qup_x, qbd_x, qck_nn, qck_ok, nn_cl, nn_add1, lx0, lx1, lx2, lx3, lx4, lx5, lx6, lx7, lx8, lx9, lx10, bi_e0, bi_e1]
        rw [(fg.1 157 _ rfl).1, hg _ fl, nn_add1, qW_some]
        have fK : qfr [(157, 0)] g2 (qw_I g2 157 (fitS s S l) (nn (zt (D.map (fitS s S)) 0 (fitS s S l) + 1))) := qfr_I0 rfl (by simp) qfr_rf
        refine ⟨_, D ++ [l], rfl, LyS_fr q1 fK, by rw [sg_fr fK (fun b j h1 h2 => by unfold inW; simp; omega), hs2], by rw [List.append_assoc, ← hD]; rfl, fun T hT => ?_⟩
        rw [List.map_append, show List.map (fitS s S) [l] = [fitS s S l] from rfl, zt_snoc0 hT fl]
        by_cases c : fitS s S l = T
        · subst c
          rw [wI_at, if_pos rfl]
        · rw [wI_ne (fun q => c q.2.symm), (fg.1 157 _ rfl).1, hg T hT, if_neg c]
          rfl
    · rintro t ⟨g, D, rfl, ls, hs, hD, hg⟩
      show qW (f_X12_fillsFitting_b26 (nn S) g) _
      unfold f_X12_fillsFitting_b26
      rw [qW_bn]
      refine qW_fr (r_laysOn w wl ls) (fun z e => fr_X12_laysOn _ e) ?_
      rintro ⟨v, g2⟩ hz fg
      have fg : qfr [(119, 50), (151, 0)] g g2 := fg
      dsimp only at hz ⊢
      have hD : D = allL s L := by simpa using hD
      rcases hz with ⟨rfl, -⟩ | ⟨-, l2, F2, e, -⟩
      · rw [if_pos rfl, qW_up, ← hD]
        exact r_zeta (fun T hT => by rw [(fg.1 157 T rfl).1]; exact hg T hT)
      · cases e
/-- what such a sum is, of a part of the set -/
theorem zt_fit {s : Sg} {L : Nat → Lw} {S T : Nat} (w : WF s) (hT : T < 2 ^ gT s) (hTS : ∀ m, T.testBit m = true → S.testBit m = true) : zt ((allL s L).map (fitS s S)) 10 T = (fitL s L T).length := by
  unfold zt fitL
  rw [List.countP_map, List.countP_eq_length_filter]
  congr 1
  apply List.filter_congr
  intro l _
  show mt 10 T (fitS s S l) = fitA s T l
  have l10 := w.t.2
  rw [Bool.eq_iff_iff, mt_iff]
  unfold fitA
  rw [decide_eq_true_eq]
  constructor
  · intro h m hm hb
    have := h m (by omega)
    rw [if_pos (by omega)] at this
    have := this hb
    unfold fitS at this
    rw [nmk_tb, decide_eq_true hm, hTS m hb, Bool.true_and, Bool.true_and] at this
    exact this
  · intro h j hj
    rw [if_pos (by omega)]
    intro hb
    have hm : j < gT s := by
      rcases Nat.lt_or_ge j (gT s) with a | a
      · exact a
      · rw [Nat.testBit_lt_two_pow (Nat.lt_of_lt_of_le hT (Nat.pow_le_pow_right (by omega) a))] at hb; cases hb
    unfold fitS
    rw [nmk_tb, decide_eq_true hm, hTS j hb, h j hm hb]
    rfl
