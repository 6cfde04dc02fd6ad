/-! THE TAPE: which of some words (class) -/
def lj : List (List Nat) → List Nat
  | [] => []
  | [w] => w
  | w :: v :: ws => w ++ 32 :: lj (v :: ws)
def wls (k : Nat) : List Nat := if k = 0 then [5, 6, 7, 8, 9] else if k = 1 then [10, 11] else if k = 2 then [2] else if k = 3 then [12, 13, 14, 15, 7, 8, 16] else [17, 18]
theorem wls_lj : ∀ k, k < 5 → lj ((wls k).map wrd) = wrd k ∧ wls k ≠ [] ∧ (wls k).all (fun w => decide (w < 19) && !(wrd w).contains 32) = true := by decide +kernel
def amR (B : Nat → Nat) (n p : Nat) : List Nat → Nat → Int32
  | [], _ => -1
  | w :: r, wh => if wis B n p w then nn wh else amR B n p r (wh + 1)
def amN (B : Nat → Nat) (n p : Nat) : List Nat → Nat → Option Nat
  | [], _ => none
  | w :: r, wh => if wis B n p w then some wh else amN B n p r (wh + 1)
theorem amR_N {B : Nat → Nat} {n p : Nat} : ∀ (ws : List Nat) (wh : Nat), amR B n p ws wh = oM (amN B n p ws wh)
  | [], _ => rfl
  | w :: r, wh => by
    unfold amR amN
    by_cases c : wis B n p w = true
    · rw [if_pos c, if_pos c]; rfl
    · rw [if_neg c, if_neg c]; exact amR_N r (wh + 1)
theorem amN_lt {B : Nat → Nat} {n p : Nat} : ∀ {ws : List Nat} {wh k : Nat}, amN B n p ws wh = some k → wh ≤ k ∧ k < wh + ws.length ∧ ∃ w, ws[k - wh]? = some w ∧ wis B n p w = true
  | [], _, _, h => by cases h
  | w :: r, wh, k, h => by
    unfold amN at h
    by_cases c : wis B n p w = true
    · rw [if_pos c] at h
      have := Option.some.inj h
      subst this
      exact ⟨Nat.le_refl _, by rw [List.length_cons]; omega, w, by rw [Nat.sub_self]; rfl, c⟩
    · rw [if_neg c] at h
      obtain ⟨h1, h2, v, h3, h4⟩ := amN_lt h
      refine ⟨by omega, by rw [List.length_cons]; omega, v, ?_, h4⟩
      rw [show k - wh = (k - (wh + 1)) + 1 by omega]
      exact h3
def oks (B : Nat → Nat) (e p : Nat) (w : List Nat) (j : Nat) : Bool := decide (p + j ≤ e) && decide (∀ i, i < j → B (p + i) = w.getD i 0)
theorem oks_s {B : Nat → Nat} {e p : Nat} {w : List Nat} {j : Nat} : oks B e p w (j + 1) = (oks B e p w j && (decide (p + j < e) && decide (B (p + j) = w.getD j 0))) := by
  unfold oks
  rw [Bool.eq_iff_iff]
  simp only [Bool.and_eq_true, decide_eq_true_eq]
  constructor
  · rintro ⟨h1, h2⟩
    exact ⟨⟨by omega, fun i hi => h2 i (by omega)⟩, by omega, h2 j (by omega)⟩
  · rintro ⟨⟨h1, h2⟩, h3, h4⟩
    refine ⟨by omega, fun i hi => ?_⟩
    by_cases c : i = j
    · rw [c]; exact h4
    · exact h2 i (by omega)
theorem getD_drop {l : List Nat} {i j : Nat} : (l.drop i).getD j 0 = l.getD (i + j) 0 := by
  rw [List.getD_eq_getElem?_getD, List.getD_eq_getElem?_getD, List.getElem?_drop]
theorem k_amongL {B : Nat → Nat} {n p k : Nat} {h : qa_M} (t : TpC B n h) (e4 : h.1 1 4 = nn p) (e2 : h.1 1 2 = nn (wd B n p)) (hp : p ≤ n) (hk : k < 5) : ∀ (ws : List Nat) (wh i : Nat), ws ≠ [] → ws.all (fun w => decide (w < 19) && !(wrd w).contains 32) = true → (wrd k).drop i = lj (ws.map wrd) → wh + ws.length ≤ 100 → f_X9_among_b20_loop k (nn wh) (nn p) (nn i) h = some (amR B n p ws wh, h) := by
  obtain ⟨t1, t2, t3⟩ := t
  have hle := wd_le (B := B) hp
  have hge := wd_ge (B := B) (n := n) (p := p)
  obtain ⟨l1, l2⟩ := wrd_len k (by omega)
  intro ws
  induction ws with
  | nil => intro _ _ q; exact absurd rfl q
  | cons w r ih =>
    intro wh i _ hall hd hwh
    rw [List.all_cons, Bool.and_eq_true, Bool.and_eq_true, decide_eq_true_eq, Bool.not_eq_true'] at hall
    obtain ⟨⟨hw19, hw32⟩, hall⟩ := hall
    have hlen : ((wrd k).drop i).length = qa_len k - i := by rw [List.length_drop, l1]
    -- the text of the word, and what is behind it
    obtain ⟨rest, hrest, hr0⟩ : ∃ rest, (wrd k).drop i = wrd w ++ rest ∧ ((r = [] ∧ rest = []) ∨ (r ≠ [] ∧ rest = 32 :: lj (r.map wrd))) := by
      cases r with
      | nil => exact ⟨[], by rw [hd]; simp [lj], .inl ⟨rfl, rfl⟩⟩
      | cons v r => exact ⟨32 :: lj ((v :: r).map wrd), by rw [hd]; rfl, .inr ⟨by simp, rfl⟩⟩
    have hL : (wrd w).length + rest.length = qa_len k - i := by rw [← hlen, hrest, List.length_append]
    have hwl : 1 ≤ (wrd w).length := (show ∀ w, w < 19 → 1 ≤ (wrd w).length by decide +kernel) w hw19
    have hch : ∀ j, j < (wrd w).length → qa_ch k (i + j) = nn ((wrd w).getD j 0) ∧ (wrd w).getD j 0 < 128 ∧ (wrd w).getD j 0 ≠ 32 := by
      intro j hj
      obtain ⟨c1, c2⟩ := wrd_ch k (by omega) (i + j) (by omega)
      have : (wrd k).getD (i + j) 0 = (wrd w).getD j 0 := by
        rw [← getD_drop, hrest, List.getD_eq_getElem?_getD, List.getD_eq_getElem?_getD, List.getElem?_append_left hj]
      rw [this] at c1 c2
      refine ⟨c1, c2, fun q => ?_⟩
      have hm : (wrd w).getD j 0 ∈ wrd w := by
        rw [List.getD_eq_getElem?_getD, List.getElem?_eq_getElem hj]
        exact List.getElem_mem hj
      rw [q] at hm
      rw [List.contains_iff_mem.mpr hm] at hw32
      cases hw32
    -- along the word
    have along : ∀ j, j ≤ (wrd w).length → f_X9_among_b20_loop k (nn wh) (nn p) (nn i) h = f_X9_among_b20_loop k (nn wh) (if oks B (wd B n p) p (wrd w) j then nn (p + j) else -1) (nn (i + j)) h := by
      intro j
      induction j with
      | zero =>
        intro _
        rw [show oks B (wd B n p) p (wrd w) 0 = true by unfold oks; rw [decide_eq_true (by omega), decide_eq_true (fun i hi => by omega)]; rfl]
        rfl
      | succ j ihj =>
        intro hj
        rw [ihj (by omega)]
        obtain ⟨c1, c2, c3⟩ := hch j (by omega)
        obtain ⟨X, hX⟩ : ∃ X : Int32, X = if oks B (wd B n p) p (wrd w) j then nn (p + j) else -1 := ⟨_, rfl⟩
        rw [← hX]
        unfold f_X9_among_b20_loop
        refine qlp_in ?_
        show f_X9_among_b20 k (nn wh) X (nn (i + j)) h = _
        unfold f_X9_among_b20
        rw [nn_ofN, if_neg (fun q => by rw [nn_lt (by omega) (by omega)] at q; omega), if_neg (fun q => by rw [nn_eq (by omega) (by omega)] at q; omega), qck_nn (by omega) (by omega), nn_cl (by omega), c1, if_neg (fun q => by exact c3 ((nn_eq (b := 32) (by omega) (by omega)).mp q)), oks_s]
        unfold f_X9_among_b106
        cases o : oks B (wd B n p) p (wrd w) j with
        | false =>
          rw [o] at hX
          have hX : X = -1 := hX
          rw [hX, if_pos rfl, qbd_e, nn_add1]
          rfl
        | true =>
          rw [o] at hX
          have hX : X = nn (p + j) := hX
          rw [hX, if_neg (nn_nm1 (by omega)), e2]
          by_cases c : p + j < wd B n p
          · have hb := t3 (p + j) (by omega)
            rw [if_neg (fun q => by rw [nn_le (by omega) (by omega)] at q; omega), qck_nn (by omega) (by omega), qck_nn (by omega) (by omega), nn_cl (by omega), hb.2, decide_eq_true c]
            unfold f_X9_among_b105 f_X9_among_b104 f_X9_among_b105 f_X9_among_b106
            by_cases c4 : B (p + j) = (wrd w).getD j 0
            · rw [if_pos (by exact (nn_eq (by omega) (by omega)).mpr c4), decide_eq_true c4, qbd_e, qbd_e, nn_add1, nn_add1]
              rfl
            · rw [if_neg (fun q => by exact c4 ((nn_eq (by omega) (by omega)).mp q)), decide_eq_false c4, qbd_e, qbd_e, nn_add1]
              rfl
          · rw [if_pos (by exact (nn_le (by omega) (by omega)).mpr (by omega)), decide_eq_false c]
            unfold f_X9_among_b104 f_X9_among_b105 f_X9_among_b106
            rw [qbd_e, qbd_e, nn_add1]
            rfl
    rw [along _ (Nat.le_refl _)]
    have hwis : wis B n p w = (oks B (wd B n p) p (wrd w) (wrd w).length && decide (p + (wrd w).length = wd B n p)) := by
      unfold wis oks
      rw [Bool.eq_iff_iff, mtc_iff]
      simp only [Bool.and_eq_true, decide_eq_true_eq]
      constructor
      · rintro ⟨h1, h2⟩; exact ⟨⟨by omega, h2⟩, h1⟩
      · rintro ⟨⟨h1, h2⟩, h3⟩; exact ⟨h3, h2⟩
    -- at its end
    have hx3 : ((if oks B (wd B n p) p (wrd w) (wrd w).length then nn (p + (wrd w).length) else (-1 : Int32)) = nn (wd B n p)) ↔ wis B n p w = true := by
      rw [hwis, Bool.and_eq_true, decide_eq_true_eq]
      cases o : oks B (wd B n p) p (wrd w) (wrd w).length with
      | false =>
        rw [if_neg (by decide)]
        exact ⟨fun q => absurd q.symm (nn_nm1 (by omega)), fun q => by cases q.1⟩
      | true =>
        have : p + (wrd w).length ≤ wd B n p := by
          unfold oks at o
          rw [Bool.and_eq_true, decide_eq_true_eq] at o
          exact o.1
        rw [if_pos rfl, nn_eq (by omega) (by omega)]
        exact ⟨fun q => ⟨rfl, q⟩, fun q => q.2⟩
    have at49 : ∀ x3 : Int32, f_X9_among_b20 k (nn wh) x3 (nn (i + (wrd w).length)) h = f_X9_among_b49 k (nn wh) x3 (nn (i + (wrd w).length)) h := by
      intro x3
      unfold f_X9_among_b20
      rw [nn_ofN]
      rcases hr0 with ⟨r0, e0⟩ | ⟨r0, e0⟩
      · rw [e0, List.length_nil] at hL
        rw [if_neg (fun q => by rw [nn_lt (by omega) (by omega)] at q; omega), if_pos (by exact (nn_eq (by omega) (by omega)).mpr (by omega))]
      · rw [e0, List.length_cons] at hL
        have c1 := (wrd_ch k (by omega) (i + (wrd w).length) (by omega)).1
        have : (wrd k).getD (i + (wrd w).length) 0 = 32 := by
          rw [← getD_drop, hrest, List.getD_eq_getElem?_getD, List.getElem?_append_right (Nat.le_refl _), Nat.sub_self, e0]
          rfl
        rw [this] at c1
        rw [if_neg (fun q => by rw [nn_lt (by omega) (by omega)] at q; omega), if_neg (fun q => by rw [nn_eq (by omega) (by omega)] at q; omega), qck_nn (by omega) (by omega), nn_cl (by omega), c1, if_pos (by rfl)]
    cases o : wis B n p w with
    | true =>
      unfold f_X9_among_b20_loop
      refine qlp_out ?_
      show f_X9_among_b20 k (nn wh) _ (nn (i + (wrd w).length)) h = _
      rw [at49]
      unfold f_X9_among_b49
      rw [e2, if_pos (hx3.mpr o), qup_s]
      unfold amR
      rw [if_pos o]
    | false =>
      have stp1 : f_X9_among_b20_loop k (nn wh) (if oks B (wd B n p) p (wrd w) (wrd w).length then nn (p + (wrd w).length) else -1) (nn (i + (wrd w).length)) h = f_X9_among_b20_loop k (nn (wh + 1)) (nn p) (nn (i + (wrd w).length + 1)) h := by
        unfold f_X9_among_b20_loop
        refine qlp_in ?_
        show f_X9_among_b20 k (nn wh) _ (nn (i + (wrd w).length)) h = _
        rw [at49]
        unfold f_X9_among_b49 f_X9_among_b106
        rw [e2, if_neg (fun q => by rw [hx3.mp q] at o; cases o), qbd_e, qbd_e, qbd_e, e4, nn_add1, nn_add1]
      rw [stp1]
      unfold amR
      rw [o, if_neg (by decide)]
      rcases hr0 with ⟨r0, e0⟩ | ⟨r0, e0⟩
      · rw [e0, List.length_nil] at hL
        subst r0
        unfold f_X9_among_b20_loop amR
        refine qlp_out ?_
        show f_X9_among_b20 k _ _ (nn (i + (wrd w).length + 1)) h = _
        unfold f_X9_among_b20
        rw [nn_ofN, if_pos (by exact (nn_lt (by omega) (by omega)).mpr (by omega)), qup_s]
      · refine ih (wh + 1) (i + (wrd w).length + 1) r0 hall ?_ (by rw [List.length_cons] at hwh; omega)
        rw [← List.drop_drop, ← List.drop_drop, hrest, List.drop_left, e0]
        rfl
theorem wis_no {B : Nat → Nat} {n p k : Nat} (hk : k < 19) (h : isL B n p = false) : wis B n p k = false := by
  have : wd B n p = p := ens_is isL_hi (by omega) (Nat.le_refl _) (fun j h1 h2 => by omega) h
  have hwl : 1 ≤ (wrd k).length := (show ∀ w, w < 19 → 1 ≤ (wrd w).length by decide +kernel) k hk
  cases o : wis B n p k with
  | false => rfl
  | true =>
    unfold wis at o
    have := mtc_len o
    omega
theorem amR_no {B : Nat → Nat} {n p : Nat} (h : isL B n p = false) : ∀ (ws : List Nat) (wh : Nat), ws.all (fun w => decide (w < 19)) = true → amR B n p ws wh = -1
  | [], _, _ => rfl
  | w :: r, wh, ha => by
    rw [List.all_cons, Bool.and_eq_true, decide_eq_true_eq] at ha
    unfold amR
    rw [wis_no ha.1 h, if_neg (by decide)]
    exact amR_no h r (wh + 1) ha.2
theorem k_among {B : Nat → Nat} {n p k : Nat} {h : qa_M} (t : TpC B n h) (tk : TkC B n p h) (hk : k < 5) : m_X9_among k h = some (amR B n p (wls k) 0, h) := by
  obtain ⟨a4, a3, a5, a2, hp, hs⟩ := tk
  obtain ⟨w1, w2, w3⟩ := wls_lj k hk
  unfold m_X9_among
  rw [a3]
  by_cases c : isL B n p = true
  · have hn : ¬ n ≤ p := by
      intro q
      rw [isL_hi p q] at c
      cases c
    have hd : ¬ isD B n p = true := fun q => by rw [isD_L q] at c; cases c
    have k2 : tkK B n p = 2 := by unfold tkK; rw [if_neg hn, if_neg hd, if_pos c]
    have ke : tkE B n p = wd B n p := by unfold tkE; rw [if_neg hn, if_neg hd, if_pos c]
    rw [k2, if_pos (by rfl), qbd_e, qbd_e, qbd_e, a4]
    exact k_amongL t a4 (by rw [a2, ke]) hp hk (wls k) 0 0 w2 w3 (by rw [w1]; rfl) ((show ∀ k, k < 5 → 0 + (wls k).length ≤ 100 by decide) k hk)
  · have c : isL B n p = false := by simpa using c
    have k2 : tkK B n p ≠ 2 := by
      unfold tkK
      by_cases c1 : n ≤ p
      · rw [if_pos c1]; decide
      · rw [if_neg c1]
        by_cases c2 : isD B n p = true
        · rw [if_pos c2]; decide
        · rw [if_neg c2, c, if_neg (by decide)]; decide
    have k3 : tkK B n p ≤ 3 := by
      unfold tkK
      repeat' split
      all_goals omega
    rw [if_neg (fun q => by exact k2 ((nn_eq (b := 2) (by omega) (by omega)).mp q)), amR_no c _ _ ((show ∀ k, k < 5 → (wls k).all (fun w => decide (w < 19)) = true by decide) k hk)]
theorem k_failAt {h : qa_M} {q c : Nat} (f0 : h.1 1 7 = 0) : m_X9_failAt (nn q) (nn c) h = some (0, qw_I h 1 7 (nn (ER q c))) := by
  unfold m_X9_failAt ER
  rw [if_pos f0, qbd_e, show (8 : Int32) = nn 8 from rfl, show (1 : Int32) = nn 1 from rfl, nn_mul, nn_add, nn_add]
theorem k_fail {h : qa_M} {q c : Nat} (f0 : h.1 1 7 = 0) (e4 : h.1 1 4 = nn q) : m_X9_fail (nn c) h = some (0, qw_I h 1 7 (nn (ER q c))) := by
  unfold m_X9_fail
  rw [e4, k_failAt f0, qbn_s, qpr_t (by decide)]
theorem tkK_le {B : Nat → Nat} {n p : Nat} : tkK B n p ≤ 3 := by
  unfold tkK
  repeat' split
  all_goals omega
/-- a number is taken, or it is a fault -/
theorem k_take {B : Nat → Nat} {n p lo hi : Nat} {h : qa_M} (t : TpC B n h) (tk : TkC B n p h) (f0 : h.1 1 7 = 0) (hlo : lo < 2147483648) (h9 : hi ≤ 99999) :
    qW (m_X9_takeNumber (nn lo) (nn hi) h) (fun z => match pNum B n p lo hi with
      | .inl f => z.1 = 0 ∧ z.2.1 1 7 = nn f
      | .inr (v, e) => z.1 = 1 ∧ z.2.1 1 6 = nn v ∧ TkC B n (sk B n e) z.2 ∧ z.2.1 1 7 = 0) := by
  have h4 := t.2.1
  have tk0 := tk
  obtain ⟨a4, a3, a5, a2, hp, hs⟩ := tk
  unfold m_X9_takeNumber pNum
  rw [sk_id hs, a3, a5]
  by_cases c : isD B n p = true
  · have hn : ¬ n ≤ p := by
      intro q
      rw [isD_hi p q] at c
      cases c
    have k1 : tkK B n p = 1 := by unfold tkK; rw [if_neg hn, if_pos c]
    have ke : tkE B n p = nd B n p := by unfold tkE; rw [if_neg hn, if_pos c]
    have kv : tkV B n p = if nd B n p - p ≤ 5 then nn (dv B p (nd B n p - p)) else -1 := by unfold tkV; rw [if_neg hn, if_pos c]
    have bad : f_X9_takeNumber_b34 h = some (0, qw_I h 1 7 (nn (ER p 1))) := by
      unfold f_X9_takeNumber_b34
      rw [a4, show (1 : Int32) = nn 1 from rfl, k_failAt f0, qbn_s, qpr_t (by decide)]
    rw [k1, if_pos (by rfl), if_pos c, kv]
    by_cases c5 : nd B n p - p ≤ 5
    · have hv := dv_5 (B := B) (n := n) (p := p) (k := nd B n p - p) (by have := nd_ge (B := B) (n := n) (p := p); omega) c5
      rw [if_pos c5]
      by_cases c2 : lo ≤ dv B p (nd B n p - p)
      · rw [if_neg (fun q => by rw [nn_lt (by omega) (by omega)] at q; omega)]
        by_cases c3 : dv B p (nd B n p - p) ≤ hi
        · rw [if_pos (by exact (nn_le (by omega) (by omega)).mpr c3), if_pos ⟨c5, c2, c3⟩, qbd_e, qW_bv]
          have ff : qfr [(1, 7)] h (qw_I h 1 6 (nn (dv B p (nd B n p - p)))) := qfr_Ik rfl (by simp) qfr_rf
          refine qW_fr (k_scan (TpC_fr t ff rfl (fun j => rfl)) (p := nd B n p) (by rw [wI_ne (by decide), a2, ke]) (nd_le hp)) (fun z e => fr_X9_scan _ e) ?_
          intro g tg f
          have f : qfr wSc _ g := f
          rw [qW_some]
          refine ⟨rfl, ?_, tg, ?_⟩
          · show g.1 1 6 = _
            rw [(f.1 1 6 rfl).1, wI_at]
          · show g.1 1 7 = 0
            rw [(f.1 1 7 rfl).1, wI_ne (by omega), f0]
        · rw [if_neg (fun q => by rw [nn_le (by omega) (by omega)] at q; omega), if_neg (fun q => c3 q.2.2), bad, qW_some]
          exact ⟨rfl, wI_at⟩
      · rw [if_pos (by exact (nn_lt (by omega) (by omega)).mpr (by omega)), if_neg (fun q => c2 q.2.1), bad, qW_some]
        exact ⟨rfl, wI_at⟩
    · rw [if_neg c5, if_pos (by rw [Int32.lt_iff_toInt_lt, nn_toInt hlo, show (-1 : Int32).toInt = -1 from rfl]; omega), if_neg (fun q => c5 q.1), bad, qW_some]
      exact ⟨rfl, wI_at⟩
  · have c : isD B n p = false := by simpa using c
    have k2 : tkK B n p ≠ 1 := by
      unfold tkK
      rw [c]
      by_cases c1 : n ≤ p
      · rw [if_pos c1]; decide
      · rw [if_neg c1, if_neg (by decide)]
        by_cases c2 : isL B n p = true
        · rw [if_pos c2]; decide
        · rw [if_neg c2]; decide
    have k3 := tkK_le (B := B) (n := n) (p := p)
    rw [c, if_neg (fun q => by exact k2 ((nn_eq (b := 1) (by omega) (by omega)).mp q)), if_neg (by decide), a4, show (0 : Int32) = nn 0 from rfl, k_failAt f0, qbn_s, qpr_t (by decide), qW_some]
    exact ⟨rfl, wI_at⟩
/-- a sign stands here -/
def sgI (B : Nat → Nat) (n p c : Nat) : Bool := decide (p < n) && decide (B p = c)
theorem k_isSign {B : Nat → Nat} {n p c : Nat} {h : qa_M} (t : TpC B n h) (tk : TkC B n p h) (hc : c < 256) (h1 : ¬ (48 ≤ c ∧ c ≤ 57)) (h2 : ¬ (97 ≤ c ∧ c ≤ 122)) (h3 : c ≠ 60 ∧ c ≠ 62) : m_X9_isSign (nn c) h = some (bi (sgI B n p c), h) := by
  obtain ⟨a4, a3, a5, a2, hp, hs⟩ := tk
  unfold m_X9_isSign sgI
  rw [a3, a5]
  unfold tkK tkV
  by_cases c1 : n ≤ p
  · rw [if_pos c1, if_neg (by decide), decide_eq_false (show ¬ p < n by omega)]
    rfl
  · have hb := t.2.2 p (by omega)
    rw [if_neg c1, if_neg c1, decide_eq_true (show p < n by omega), Bool.true_and]
    by_cases c2 : isD B n p = true
    · rw [if_pos c2, if_pos c2, if_neg (by decide), decide_eq_false]
      · rfl
      · intro q
        unfold isD at c2
        rw [Bool.and_eq_true, decide_eq_true_eq, decide_eq_true_eq, q] at c2
        exact h1 c2.2
    · rw [if_neg c2, if_neg c2]
      by_cases c3 : isL B n p = true
      · rw [if_pos c3, if_neg (by decide), decide_eq_false]
        · rfl
        · intro q
          unfold isL at c3
          rw [Bool.and_eq_true, decide_eq_true_eq, decide_eq_true_eq, q] at c3
          exact h2 c3.2
      · rw [if_neg c3, if_neg c3, if_pos (by rfl)]
        by_cases c4 : two B n p = true
        · have : B p = 60 ∨ B p = 62 := by
            unfold two at c4
            rw [Bool.and_eq_true, decide_eq_true_eq] at c4
            exact c4.1
          rw [if_pos c4, if_neg (fun q => by rw [nn_eq (by omega) (by omega)] at q; omega), decide_eq_false (by omega)]
          rfl
        · rw [if_neg c4]
          by_cases c5 : B p = c
          · rw [if_pos (by exact (nn_eq (by omega) (by omega)).mpr c5), decide_eq_true c5]
            rfl
          · rw [if_neg (fun q => by exact c5 ((nn_eq (by omega) (by omega)).mp q)), decide_eq_false c5]
            rfl
