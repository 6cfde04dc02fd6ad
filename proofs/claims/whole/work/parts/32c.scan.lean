/-! THE TAPE: what the class reads now -/
def two (B : Nat → Nat) (n p : Nat) : Bool := decide (B p = 60 ∨ B p = 62) && (decide (p + 1 < n) && decide (B (p + 1) = 61))
def tkK (B : Nat → Nat) (n p : Nat) : Nat := if n ≤ p then 0 else if isD B n p then 1 else if isL B n p then 2 else 3
def tkE (B : Nat → Nat) (n p : Nat) : Nat := if n ≤ p then p else if isD B n p then nd B n p else if isL B n p then wd B n p else if two B n p then p + 2 else p + 1
def tkV (B : Nat → Nat) (n p : Nat) : Int32 := if n ≤ p then 0 else if isD B n p then (if nd B n p - p ≤ 5 then nn (dv B p (nd B n p - p)) else -1) else if isL B n p then 0 else if two B n p then nn (B p + 256) else nn (B p)
def TkC (B : Nat → Nat) (n p : Nat) (h : qa_M) : Prop := h.1 1 4 = nn p ∧ h.1 1 3 = nn (tkK B n p) ∧ h.1 1 5 = tkV B n p ∧ h.1 1 2 = nn (tkE B n p) ∧ p ≤ n ∧ isS B n p = false
theorem tkE_le {B : Nat → Nat} {n p : Nat} (h : p ≤ n) : tkE B n p ≤ n := by
  unfold tkE
  by_cases c : n ≤ p
  · rw [if_pos c]; exact h
  · rw [if_neg c]
    by_cases c1 : isD B n p = true
    · rw [if_pos c1]; exact nd_le h
    · rw [if_neg c1]
      by_cases c2 : isL B n p = true
      · rw [if_pos c2]; exact wd_le h
      · rw [if_neg c2]
        by_cases c3 : two B n p = true
        · rw [if_pos c3]
          unfold two at c3
          rw [Bool.and_eq_true, Bool.and_eq_true, decide_eq_true_eq, decide_eq_true_eq] at c3
          omega
        · rw [if_neg c3]; omega
theorem isD_L {B : Nat → Nat} {n p : Nat} (h : isD B n p = true) : isL B n p = false := by
  unfold isD at h
  unfold isL
  rw [Bool.and_eq_true, decide_eq_true_eq, decide_eq_true_eq] at h
  rw [decide_eq_false (show ¬ (97 ≤ B p ∧ B p ≤ 122) by omega), Bool.and_false]
def wSc : List (Nat × Nat) := [(1, 3), (1, 4), (1, 5), (1, 6)]
theorem TkC_fr {W : List (Nat × Nat)} {B : Nat → Nat} {n p : Nat} {h g : qa_M} (t : TkC B n p h) (f : qfr W h g) (w2 : inW W 1 2 = false) (w3 : inW W 1 3 = false) (w4 : inW W 1 4 = false) (w5 : inW W 1 5 = false) : TkC B n p g := ⟨(f.1 1 4 w4).1.trans t.1, (f.1 1 3 w3).1.trans t.2.1, (f.1 1 5 w5).1.trans t.2.2.1, (f.1 1 2 w2).1.trans t.2.2.2.1, t.2.2.2.2⟩
/-- behind digits or letters, or at a sign -/
theorem k_scan219 {B : Nat → Nat} {n p : Nat} {h : qa_M} (t : TpC B n h) (hp : p ≤ n) (hs : isS B n p = false) (e4 : h.1 1 4 = nn p)
    (hk : (isD B n p = true ∧ h.1 1 3 = 1 ∧ h.1 1 5 = tkV B n p ∧ h.1 1 2 = nn (nd B n p)) ∨ (isL B n p = true ∧ h.1 1 3 = 2 ∧ h.1 1 5 = 0 ∧ h.1 1 2 = nn (wd B n p)) ∨ (isD B n p = false ∧ isL B n p = false ∧ h.1 1 3 = 0 ∧ h.1 1 5 = 0 ∧ h.1 1 2 = nn p)) :
    qW (f_X9_scan_b219 h) (TkC B n p) := by
  obtain ⟨t1, t2, t3⟩ := t
  unfold f_X9_scan_b219
  rcases hk with ⟨c, e3, e5, e2⟩ | ⟨c, e3, e5, e2⟩ | ⟨c1, c2, e3, e5, e2⟩
  · have hn : ¬ n ≤ p := by
      intro q
      rw [isD_hi p q] at c
      cases c
    rw [e3, if_neg (by decide), qW_some]
    refine ⟨e4, ?_, e5, ?_, hp, hs⟩
    · unfold tkK; rw [if_neg hn, if_pos c]; exact e3
    · unfold tkE; rw [if_neg hn, if_pos c]; exact e2
  · have hn : ¬ n ≤ p := by
      intro q
      rw [isL_hi p q] at c
      cases c
    have hd : ¬ isD B n p = true := fun q => by rw [isD_L q] at c; cases c
    rw [e3, if_neg (by decide), qW_some]
    refine ⟨e4, ?_, ?_, ?_, hp, hs⟩
    · unfold tkK; rw [if_neg hn, if_neg hd, if_pos c]; exact e3
    · unfold tkV; rw [if_neg hn, if_neg hd, if_pos c]; exact e5
    · unfold tkE; rw [if_neg hn, if_neg hd, if_pos c]; exact e2
  · have hd : ¬ isD B n p = true := by rw [c1]; decide
    have hl : ¬ isL B n p = true := by rw [c2]; decide
    rw [e3, if_pos rfl, t1, e2]
    by_cases c : n ≤ p
    · rw [if_pos (by exact (nn_le (by omega) (by omega)).mpr c), qW_some]
      refine ⟨e4, ?_, ?_, ?_, hp, hs⟩
      · unfold tkK; rw [if_pos c]; exact e3
      · unfold tkV; rw [if_pos c]; exact e5
      · unfold tkE; rw [if_pos c]; exact e2
    · have hb := t3 p (by omega)
      rw [if_neg (fun q => by rw [nn_le (by omega) (by omega)] at q; omega), qbd_e, wI_ne (by omega), e2, qck_nn (by omega) (by omega), qbd_e, nn_cl (by omega), wI_ne (by omega), hb.2, wI_ne (by omega), wI_ne (by omega), e2, nn_add1, qbd_e]
      obtain ⟨g, hg⟩ : ∃ g, g = qw_I (qw_I (qw_I h 1 3 3) 1 5 (nn (B p))) 1 2 (nn (p + 1)) := ⟨_, rfl⟩
      rw [← hg]
      have g2 : g.1 1 2 = nn (p + 1) := by rw [hg, wI_at]
      have g5 : g.1 1 5 = nn (B p) := by rw [hg, wI_ne (by omega), wI_at]
      have g3 : g.1 1 3 = 3 := by rw [hg, wI_ne (by omega), wI_ne (by omega), wI_at]
      have g4 : g.1 1 4 = nn p := by rw [hg, wI_ne (by omega), wI_ne (by omega), wI_ne (by omega), e4]
      have g1 : g.1 1 1 = nn n := by rw [hg, wI_ne (by omega), wI_ne (by omega), wI_ne (by omega), t1]
      have gb : ∀ j, g.1 2 j = h.1 2 j := fun j => by rw [hg, wI_ne (by omega), wI_ne (by omega), wI_ne (by omega)]
      have fin1 : two B n p = false → TkC B n p g := by
        intro q
        have q : ¬ two B n p = true := by rw [q]; decide
        refine ⟨g4, ?_, ?_, ?_, hp, hs⟩
        · unfold tkK; rw [if_neg c, if_neg hd, if_neg hl]; exact g3
        · unfold tkV; rw [if_neg c, if_neg hd, if_neg hl, if_neg q]; exact g5
        · unfold tkE; rw [if_neg c, if_neg hd, if_neg hl, if_neg q]; exact g2
      have in2 : (B p = 60 ∨ B p = 62) → qW (f_X9_scan_b283 g) (TkC B n p) := by
        intro hq
        unfold f_X9_scan_b283
        rw [g1, g2]
        by_cases c1 : n ≤ p + 1
        · rw [if_pos (by exact (nn_le (by omega) (by omega)).mpr c1), qW_some]
          refine fin1 ?_
          unfold two
          rw [decide_eq_false (show ¬ p + 1 < n by omega)]
          simp
        · have hb1 := t3 (p + 1) (by omega)
          rw [if_neg (fun q => by rw [nn_le (by omega) (by omega)] at q; omega), qck_nn (by omega) (by omega), nn_cl (by omega), gb, hb1.2]
          by_cases c6 : B (p + 1) = 61
          · have tw : two B n p = true := by
              unfold two
              rw [decide_eq_true hq, decide_eq_true (show p + 1 < n by omega), decide_eq_true c6]
              rfl
            rw [if_pos (by exact (nn_eq (by omega) (b := 61) (by omega)).mpr c6), qbd_e, qbd_e, qW_some, g5, wI_ne (by omega), g2, nn_add1, show (256 : Int32) = nn 256 from rfl, nn_add]
            refine ⟨?_, ?_, ?_, ?_, hp, hs⟩
            · rw [wI_ne (by omega), wI_ne (by omega), g4]
            · unfold tkK; rw [if_neg c, if_neg hd, if_neg hl, wI_ne (by omega), wI_ne (by omega)]; exact g3
            · unfold tkV; rw [if_neg c, if_neg hd, if_neg hl, if_pos tw, wI_ne (by omega), wI_at]
            · unfold tkE; rw [if_neg c, if_neg hd, if_neg hl, if_pos tw, wI_at]
          · rw [if_neg (fun q => by exact c6 ((nn_eq (by omega) (b := 61) (by omega)).mp q)), qW_some]
            refine fin1 ?_
            unfold two
            rw [decide_eq_false c6]
            simp
      rw [g5]
      by_cases c6 : B p = 60
      · rw [if_pos (by exact (nn_eq (by omega) (b := 60) (by omega)).mpr c6)]
        exact in2 (.inl c6)
      · rw [if_neg (fun q => by exact c6 ((nn_eq (by omega) (b := 60) (by omega)).mp q))]
        by_cases c7 : B p = 62
        · rw [if_pos (by exact (nn_eq (by omega) (b := 62) (by omega)).mpr c7)]
          exact in2 (.inr c7)
        · rw [if_neg (fun q => by exact c7 ((nn_eq (by omega) (b := 62) (by omega)).mp q)), qW_some]
          refine fin1 ?_
          unfold two
          rw [decide_eq_false (by omega)]
          rfl
theorem k_scan154 {B : Nat → Nat} {n p : Nat} {h : qa_M} (t : TpC B n h) (hp : p ≤ n) (hs : isS B n p = false) (e4 : h.1 1 4 = nn p)
    (hk : (isD B n p = true ∧ h.1 1 3 = 1 ∧ h.1 1 5 = tkV B n p ∧ h.1 1 2 = nn (nd B n p)) ∨ (isD B n p = false ∧ h.1 1 3 = 0 ∧ h.1 1 5 = 0 ∧ h.1 1 2 = nn p)) :
    qW (f_X9_scan_b154_loop h) (TkC B n p) := by
  have h4 := t.2.1
  unfold f_X9_scan_b154_loop
  rcases hk with ⟨c, e3, e5, e2⟩ | ⟨c, e3, e5, e2⟩
  · refine qW_lpin ?_
    show qW (f_X9_scan_b154 h) _
    unfold f_X9_scan_b154
    rw [e3, if_pos rfl, qW_up]
    exact k_scan219 t hp hs e4 (.inl ⟨c, e3, e5, e2⟩)
  · have hle := wd_le (B := B) hp
    have hge := wd_ge (B := B) (n := n) (p := p)
    refine qW_for (wd B n p - p) (fun k g => g.1 1 2 = nn (p + k) ∧ g.1 1 3 = (if k = 0 then 0 else 2) ∧ g.1 1 5 = 0 ∧ qfr [(1, 3), (1, 4)] h g) ?_ ?_ (Nat.zero_le _) ⟨e2, e3, e5, qfr_rf⟩
    · rintro k g hk ⟨eg, e3, e5, f⟩
      have tg := TpC_fr t f rfl (fun j => rfl)
      have hi2 := wd_in (B := B) (n := n) (p := p) (j := p + k) (by omega) (by omega)
      unfold isL at hi2
      rw [Bool.and_eq_true, decide_eq_true_eq, decide_eq_true_eq] at hi2
      have hb := tg.2.2 _ hi2.1
      show qW (f_X9_scan_b154 g) _
      unfold f_X9_scan_b154
      have n1 : ¬ g.1 1 3 = 1 := by
        rw [e3]
        by_cases c0 : k = 0
        · rw [if_pos c0]; decide
        · rw [if_neg c0]; decide
      rw [if_neg n1, tg.1, eg, if_neg (fun q => by rw [nn_le (by omega) (by omega)] at q; omega), qck_nn (by omega) (by omega), nn_cl (by omega), hb.2, if_neg (fun q => by rw [show (97 : Int32) = nn 97 from rfl, nn_lt (by omega) (by omega)] at q; omega), qck_nn (by omega) (by omega), if_neg (fun q => by rw [show (122 : Int32) = nn 122 from rfl, nn_lt (by omega) (by omega)] at q; omega), qbd_e, qbd_e, qW_some, wI_ne (by omega), eg, nn_add1]
      refine ⟨wI_at, ?_, ?_, qfr_tr f (qfr_Ik rfl (by simp) (qfr_Ik rfl (by simp) qfr_rf))⟩
      · rw [wI_ne (by omega), wI_at, if_neg (by omega)]
      · rw [wI_ne (by omega), wI_ne (by omega), e5]
    · rintro g ⟨eg, e3, e5, f⟩
      have tg := TpC_fr t f rfl (fun j => rfl)
      rw [show p + (wd B n p - p) = wd B n p by omega] at eg
      have e4g : g.1 1 4 = nn p := by rw [(f.1 1 4 rfl).1, e4]
      have go : qW (f_X9_scan_b219 g) (TkC B n p) := by
        refine k_scan219 tg hp hs e4g (.inr ?_)
        cases cl : isL B n p with
        | true =>
          have := wd_gt cl
          rw [if_neg (by omega)] at e3
          exact .inl ⟨rfl, e3, e5, eg⟩
        | false =>
          have : wd B n p = p := ens_is isL_hi (by omega) (Nat.le_refl _) (fun j h1 h2 => by omega) cl
          rw [this] at eg e3
          rw [if_pos (by omega)] at e3
          exact .inr ⟨c, rfl, e3, e5, eg⟩
      show qW (f_X9_scan_b154 g) _
      unfold f_X9_scan_b154
      have n1 : ¬ g.1 1 3 = 1 := by
        rw [e3]
        by_cases c0 : wd B n p - p = 0
        · rw [if_pos c0]; decide
        · rw [if_neg c0]; decide
      rw [if_neg n1, tg.1, eg]
      by_cases c2 : n ≤ wd B n p
      · rw [if_pos (by exact (nn_le (by omega) (by omega)).mpr c2), qW_up]
        exact go
      · have hi2 := wd_end (B := B) (n := n) (p := p)
        unfold isL at hi2
        rw [decide_eq_true (by omega), Bool.true_and, decide_eq_false_iff_not] at hi2
        have hb := tg.2.2 (wd B n p) (by omega)
        rw [if_neg (fun q => by rw [nn_le (by omega) (by omega)] at q; omega), qck_nn (by omega) (by omega), nn_cl (by omega), hb.2]
        by_cases c3 : B (wd B n p) < 97
        · rw [if_pos (by exact (nn_lt (b := 97) (by omega) (by omega)).mpr c3), qW_up]
          exact go
        · rw [if_neg (fun q => by exact c3 ((nn_lt (b := 97) (by omega) (by omega)).mp q)), qck_nn (by omega) (by omega), if_pos (by exact (nn_lt (a := 122) (by omega) (by omega)).mpr (by omega)), qW_up]
          exact go
theorem k_scan {B : Nat → Nat} {n p : Nat} {h : qa_M} (t : TpC B n h) (e : h.1 1 2 = nn p) (hp : p ≤ n) : qW (m_X9_scan h) (TkC B n (sk B n p)) := by
  have h4 := t.2.1
  have hle := sk_le (B := B) hp
  have hge := sk_ge (B := B) (n := n) (p := p)
  have main : ∀ g, qfr [(1, 3)] h g → g.1 1 2 = nn (sk B n p) → qW (f_X9_scan_b38 g) (TkC B n (sk B n p)) := by
    intro g f eg
    have tg := TpC_fr t f rfl (fun j => rfl)
    have hs := sk_end (B := B) (n := n) (p := p)
    obtain ⟨q, hq⟩ : ∃ q, q = sk B n p := ⟨_, rfl⟩
    rw [← hq] at hle hs eg ⊢
    unfold f_X9_scan_b38
    rw [qbd_e, qbd_e, qbd_e, eg]
    obtain ⟨g0, hg0⟩ : ∃ g0, g0 = qw_I (qw_I (qw_I g 1 4 (nn q)) 1 5 0) 1 3 0 := ⟨_, rfl⟩
    rw [← hg0]
    have a2 : g0.1 1 2 = nn q := by rw [hg0, wI_ne (by omega), wI_ne (by omega), wI_ne (by omega), eg]
    have a3 : g0.1 1 3 = 0 := by rw [hg0, wI_at]
    have a4 : g0.1 1 4 = nn q := by rw [hg0, wI_ne (by omega), wI_ne (by omega), wI_at]
    have a5 : g0.1 1 5 = 0 := by rw [hg0, wI_ne (by omega), wI_at]
    have f0 : qfr wSc g g0 := by rw [hg0]; exact qfr_Ik rfl (by simp [wSc]) (qfr_Ik rfl (by simp [wSc]) (qfr_Ik rfl (by simp [wSc]) qfr_rf))
    have t0 := TpC_fr tg f0 rfl (fun j => rfl)
    have l1 := nd_le (B := B) hle
    have l2 := nd_ge (B := B) (n := n) (p := q)
    unfold f_X9_scan_b56_loop
    refine qW_for (nd B n q - q) (fun k G => G.1 1 2 = nn (q + k) ∧ G.1 1 3 = (if k = 0 then 0 else 1) ∧ G.1 1 5 = (if k ≤ 5 then nn (dv B q k) else -1) ∧ G.1 1 4 = nn q ∧ TpC B n G) ?_ ?_ (Nat.zero_le _) ⟨a2, a3, a5, a4, t0⟩
    · rintro k G hk ⟨b2, b3, b5, b4, tG⟩
      have hi2 := nd_in (B := B) (n := n) (p := q) (j := q + k) (by omega) (by omega)
      unfold isD at hi2
      rw [Bool.and_eq_true, decide_eq_true_eq, decide_eq_true_eq] at hi2
      have hb := tG.2.2 _ hi2.1
      show qW (f_X9_scan_b56 G) _
      unfold f_X9_scan_b56
      rw [tG.1, b2, if_neg (fun q => by rw [nn_le (by omega) (by omega)] at q; omega), qck_nn (by omega) (by omega), nn_cl (by omega), hb.2, if_neg (fun q => by rw [show (48 : Int32) = nn 48 from rfl, nn_lt (by omega) (by omega)] at q; omega), qck_nn (by omega) (by omega), if_neg (fun q => by rw [show (57 : Int32) = nn 57 from rfl, nn_lt (by omega) (by omega)] at q; omega), qbd_e, wI_ne (by omega), wI_ne (by omega), b2, b4, nn_sub (by omega), show q + k - q = k by omega]
      have fin : ∀ v, v = (if k + 1 ≤ 5 then nn (dv B q (k + 1)) else -1) → qW (f_X9_scan_b138 v (qw_I G 1 3 1)) (Sum.elim (fun G => G.1 1 2 = nn (q + (k + 1)) ∧ G.1 1 3 = (if k + 1 = 0 then 0 else 1) ∧ G.1 1 5 = (if k + 1 ≤ 5 then nn (dv B q (k + 1)) else -1) ∧ G.1 1 4 = nn q ∧ TpC B n G) (TkC B n q)) := by
        intro v hv
        unfold f_X9_scan_b138
        rw [qbd_e, qbd_e, qW_some, wI_ne (by omega), wI_ne (by omega), b2, nn_add1]
        have ff : qfr wSc G (qw_I (qw_I (qw_I G 1 3 1) 1 5 v) 1 2 (nn (q + k + 1))) := qfr_Ik rfl (by simp [wSc]) (qfr_Ik rfl (by simp [wSc]) (qfr_Ik rfl (by simp [wSc]) qfr_rf))
        refine ⟨wI_at, ?_, ?_, ?_, TpC_fr tG ff rfl (fun j => rfl)⟩
        · rw [wI_ne (by omega), wI_ne (by omega), wI_at, if_neg (by omega)]
        · rw [wI_ne (by omega), wI_at, hv]
        · rw [wI_ne (by omega), wI_ne (by omega), wI_ne (by omega), b4]
      by_cases c5 : 5 ≤ k
      · rw [if_pos (by exact (nn_le (a := 5) (by omega) (by omega)).mpr c5)]
        refine fin _ ?_
        rw [if_neg (by omega)]
      · rw [if_neg (fun q => by rw [show (5 : Int32) = nn 5 from rfl, nn_le (by omega) (by omega)] at q; omega), qck_nn (by omega) (by omega), wI_ne (by omega), wI_ne (by omega), nn_cl (by omega), b5, if_pos (by omega), hb.2]
        refine fin _ ?_
        rw [if_pos (by omega), show (10 : Int32) = nn 10 from rfl, show (48 : Int32) = nn 48 from rfl, nn_mul, nn_add, nn_sub (by omega)]
        show nn _ = nn (10 * dv B q k + (B (q + k) - 48))
        congr 1
        omega
    · rintro G ⟨b2, b3, b5, b4, tG⟩
      rw [show q + (nd B n q - q) = nd B n q by omega] at b2
      have go : qW (f_X9_scan_b154_loop G) (TkC B n q) := by
        refine k_scan154 tG hle hs b4 ?_
        cases cd : isD B n q with
        | true =>
          have := nd_gt cd
          have hn : ¬ n ≤ q := by omega
          rw [if_neg (by omega)] at b3
          refine .inl ⟨rfl, b3, ?_, b2⟩
          unfold tkV
          rw [if_neg hn, if_pos cd]
          exact b5
        | false =>
          have : nd B n q = q := ens_is isD_hi (by omega) (Nat.le_refl _) (fun j h1 h2 => by omega) cd
          rw [this] at b2 b3 b5
          rw [if_pos (by omega)] at b3
          rw [if_pos (by omega), show q - q = 0 by omega] at b5
          exact .inr ⟨rfl, b3, b5, b2⟩
      show qW (f_X9_scan_b56 G) _
      unfold f_X9_scan_b56
      rw [tG.1, b2]
      by_cases c2 : n ≤ nd B n q
      · rw [if_pos (by exact (nn_le (by omega) (by omega)).mpr c2), qW_up]
        exact go
      · have hi2 := nd_end (B := B) (n := n) (p := q)
        unfold isD at hi2
        rw [decide_eq_true (by omega), Bool.true_and, decide_eq_false_iff_not] at hi2
        have hb := tG.2.2 (nd B n q) (by omega)
        rw [if_neg (fun q => by rw [nn_le (by omega) (by omega)] at q; omega), qck_nn (by omega) (by omega), nn_cl (by omega), hb.2]
        by_cases c3 : B (nd B n q) < 48
        · rw [if_pos (by exact (nn_lt (b := 48) (by omega) (by omega)).mpr c3), qW_up]
          exact go
        · rw [if_neg (fun q => by exact c3 ((nn_lt (b := 48) (by omega) (by omega)).mp q)), qck_nn (by omega) (by omega), if_pos (by exact (nn_lt (a := 57) (by omega) (by omega)).mpr (by omega)), qW_up]
          exact go
  unfold m_X9_scan f_X9_scan_b0_loop
  refine qW_for (sk B n p - p) (fun k g => g.1 1 2 = nn (p + k) ∧ qfr [(1, 3)] h g) ?_ ?_ (Nat.zero_le _) ⟨e, qfr_rf⟩
  · rintro k g hk ⟨eg, f⟩
    have tg := TpC_fr t f rfl (fun j => rfl)
    have hs := sk_in (B := B) (n := n) (p := p) (j := p + k) (by omega) (by omega)
    unfold isS at hs
    rw [Bool.and_eq_true, decide_eq_true_eq, decide_eq_true_eq] at hs
    have hb := tg.2.2 _ hs.1
    show qW (f_X9_scan_b0 g) _
    unfold f_X9_scan_b0
    rw [tg.1, eg, if_neg (fun q => by rw [nn_le (by omega) (by omega)] at q; omega), qck_nn (by omega) (by omega), nn_cl (by omega), hb.2, if_pos (by exact (nn_eq (b := 32) (by omega) (by omega)).mpr hs.2), qbd_e, qW_some, nn_add1]
    exact ⟨wI_at, qfr_tr f (qfr_Ik rfl (by simp) qfr_rf)⟩
  · rintro g ⟨eg, f⟩
    have tg := TpC_fr t f rfl (fun j => rfl)
    rw [show p + (sk B n p - p) = sk B n p by omega] at eg
    have hs := sk_end (B := B) (n := n) (p := p)
    show qW (f_X9_scan_b0 g) _
    unfold f_X9_scan_b0
    rw [tg.1, eg]
    by_cases c : n ≤ sk B n p
    · rw [if_pos (by exact (nn_le (by omega) (by omega)).mpr c), qW_up]
      exact main g f eg
    · unfold isS at hs
      rw [decide_eq_true (by omega), Bool.true_and, decide_eq_false_iff_not] at hs
      have hb := tg.2.2 (sk B n p) (by omega)
      rw [if_neg (fun q => by rw [nn_le (by omega) (by omega)] at q; omega), qck_nn (by omega) (by omega), nn_cl (by omega), hb.2, if_neg (fun q => by exact hs ((nn_eq (b := 32) (by omega) (by omega)).mp q)), qW_up]
      exact main g f eg
