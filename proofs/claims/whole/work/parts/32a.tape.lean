/-! THE TAPE: bytes, blanks, digits, words -/
def ens (P : Nat → Bool) : Nat → Nat → Nat
  | 0, p => p
  | f + 1, p => if P p then ens P f (p + 1) else p
theorem ens_ge {P : Nat → Bool} : ∀ (f p : Nat), p ≤ ens P f p
  | 0, p => Nat.le_refl _
  | f + 1, p => by
    unfold ens
    by_cases c : P p = true
    · rw [if_pos c]
      have := ens_ge (P := P) f (p + 1)
      omega
    · rw [if_neg c]
      exact Nat.le_refl _
theorem ens_all {P : Nat → Bool} : ∀ (f p : Nat) (j : Nat), p ≤ j → j < ens P f p → P j = true
  | 0, p, j, h1, h2 => by unfold ens at h2; omega
  | f + 1, p, j, h1, h2 => by
    unfold ens at h2
    by_cases c : P p = true
    · rw [if_pos c] at h2
      by_cases e : j = p
      · rw [e]; exact c
      · exact ens_all f (p + 1) j (by omega) h2
    · rw [if_neg c] at h2
      omega
theorem ens_end {P : Nat → Bool} {n : Nat} (hP : ∀ j, n ≤ j → P j = false) : ∀ (f p : Nat), n ≤ p + f → P (ens P f p) = false
  | 0, p, h => hP p (by omega)
  | f + 1, p, h => by
    unfold ens
    by_cases c : P p = true
    · rw [if_pos c]
      exact ens_end hP f (p + 1) (by omega)
    · rw [if_neg c]
      simpa using c
theorem ens_le {P : Nat → Bool} {n : Nat} (hP : ∀ j, n ≤ j → P j = false) {f p : Nat} (h : p ≤ n) : ens P f p ≤ n := by
  rcases Nat.lt_or_ge n (ens P f p) with c | c
  · have := ens_all f p n h c
    rw [hP n (Nat.le_refl _)] at this
    cases this
  · exact c
theorem ens_is {P : Nat → Bool} {n f p e : Nat} (hP : ∀ j, n ≤ j → P j = false) (hf : n ≤ p + f) (h1 : p ≤ e) (h2 : ∀ j, p ≤ j → j < e → P j = true) (h3 : P e = false) : ens P f p = e := by
  have a := ens_ge (P := P) f p
  have b := ens_end hP f p hf
  rcases Nat.lt_trichotomy (ens P f p) e with c | c | c
  · rw [h2 _ a c] at b; cases b
  · exact c
  · rw [ens_all f p e h1 c] at h3; cases h3
def isS (B : Nat → Nat) (n j : Nat) : Bool := decide (j < n) && decide (B j = 32)
def isD (B : Nat → Nat) (n j : Nat) : Bool := decide (j < n) && decide (48 ≤ B j ∧ B j ≤ 57)
def isL (B : Nat → Nat) (n j : Nat) : Bool := decide (j < n) && decide (97 ≤ B j ∧ B j ≤ 122)
theorem isS_hi {B : Nat → Nat} {n : Nat} : ∀ j, n ≤ j → isS B n j = false := fun j h => by unfold isS; rw [decide_eq_false (by omega)]; rfl
theorem isD_hi {B : Nat → Nat} {n : Nat} : ∀ j, n ≤ j → isD B n j = false := fun j h => by unfold isD; rw [decide_eq_false (by omega)]; rfl
theorem isL_hi {B : Nat → Nat} {n : Nat} : ∀ j, n ≤ j → isL B n j = false := fun j h => by unfold isL; rw [decide_eq_false (by omega)]; rfl
def sk (B : Nat → Nat) (n p : Nat) : Nat := ens (isS B n) (n - p) p
def nd (B : Nat → Nat) (n p : Nat) : Nat := ens (isD B n) (n - p) p
def wd (B : Nat → Nat) (n p : Nat) : Nat := ens (isL B n) (n - p) p
theorem sk_ge {B : Nat → Nat} {n p : Nat} : p ≤ sk B n p := ens_ge _ _
theorem nd_ge {B : Nat → Nat} {n p : Nat} : p ≤ nd B n p := ens_ge _ _
theorem wd_ge {B : Nat → Nat} {n p : Nat} : p ≤ wd B n p := ens_ge _ _
theorem sk_le {B : Nat → Nat} {n p : Nat} (h : p ≤ n) : sk B n p ≤ n := ens_le isS_hi h
theorem nd_le {B : Nat → Nat} {n p : Nat} (h : p ≤ n) : nd B n p ≤ n := ens_le isD_hi h
theorem wd_le {B : Nat → Nat} {n p : Nat} (h : p ≤ n) : wd B n p ≤ n := ens_le isL_hi h
theorem sk_end {B : Nat → Nat} {n p : Nat} : isS B n (sk B n p) = false := ens_end isS_hi _ _ (by omega)
theorem nd_end {B : Nat → Nat} {n p : Nat} : isD B n (nd B n p) = false := ens_end isD_hi _ _ (by omega)
theorem wd_end {B : Nat → Nat} {n p : Nat} : isL B n (wd B n p) = false := ens_end isL_hi _ _ (by omega)
theorem sk_in {B : Nat → Nat} {n p j : Nat} (h1 : p ≤ j) (h2 : j < sk B n p) : isS B n j = true := ens_all _ _ _ h1 h2
theorem nd_in {B : Nat → Nat} {n p j : Nat} (h1 : p ≤ j) (h2 : j < nd B n p) : isD B n j = true := ens_all _ _ _ h1 h2
theorem wd_in {B : Nat → Nat} {n p j : Nat} (h1 : p ≤ j) (h2 : j < wd B n p) : isL B n j = true := ens_all _ _ _ h1 h2
theorem sk_id {B : Nat → Nat} {n p : Nat} (h : isS B n p = false) : sk B n p = p := ens_is isS_hi (by omega) (Nat.le_refl _) (fun j h1 h2 => by omega) h
theorem sk_sk {B : Nat → Nat} {n p : Nat} : sk B n (sk B n p) = sk B n p := sk_id sk_end
theorem nd_gt {B : Nat → Nat} {n p : Nat} (h : isD B n p = true) : p < nd B n p := by
  rcases Nat.eq_or_lt_of_le (nd_ge (B := B) (n := n) (p := p)) with c | c
  · rw [c, nd_end] at h; cases h
  · exact c
theorem wd_gt {B : Nat → Nat} {n p : Nat} (h : isL B n p = true) : p < wd B n p := by
  rcases Nat.eq_or_lt_of_le (wd_ge (B := B) (n := n) (p := p)) with c | c
  · rw [c, wd_end] at h; cases h
  · exact c
/-- the value of some digits -/
def dv (B : Nat → Nat) (p : Nat) : Nat → Nat
  | 0 => 0
  | k + 1 => 10 * dv B p k + (B (p + k) - 48)
theorem dv_lt {B : Nat → Nat} {n p : Nat} : ∀ k, p + k ≤ nd B n p → dv B p k < 10 ^ k
  | 0, _ => by unfold dv; decide
  | k + 1, h => by
    have a := dv_lt (B := B) (n := n) (p := p) k (by omega)
    have b := nd_in (B := B) (n := n) (p := p) (j := p + k) (by omega) (by omega)
    unfold isD at b
    rw [Bool.and_eq_true] at b
    have b := of_decide_eq_true b.2
    unfold dv
    rw [Nat.pow_succ]
    omega
theorem dv_5 {B : Nat → Nat} {n p k : Nat} (h : p + k ≤ nd B n p) (h5 : k ≤ 5) : dv B p k ≤ 99999 := by
  have a := dv_lt (B := B) (n := n) (p := p) k h
  have b : 10 ^ k ≤ 10 ^ 5 := Nat.pow_le_pow_right (by omega) h5
  omega
/-! words -/
def wrd (k : Nat) : List Nat := (qa_by.getD k []).map cN
def mtc (B : Nat → Nat) (e : Nat) : Nat → List Nat → Bool
  | p, [] => decide (p = e)
  | p, c :: cs => decide (p < e) && (decide (B p = c) && mtc B e (p + 1) cs)
/-- a word stands at a place -/
def wis (B : Nat → Nat) (n p k : Nat) : Bool := mtc B (wd B n p) p (wrd k)
theorem mtc_len {B : Nat → Nat} {e : Nat} : ∀ {p : Nat} {w : List Nat}, mtc B e p w = true → p + w.length = e
  | p, [], h => by have := of_decide_eq_true h; simpa using this
  | p, c :: cs, h => by
    unfold mtc at h
    rw [Bool.and_eq_true, Bool.and_eq_true] at h
    have := mtc_len h.2.2
    rw [List.length_cons]
    omega
theorem mtc_iff {B : Nat → Nat} {e : Nat} : ∀ {p : Nat} {w : List Nat}, mtc B e p w = true ↔ p + w.length = e ∧ ∀ j, j < w.length → B (p + j) = w.getD j 0
  | p, [] => by
    unfold mtc
    rw [decide_eq_true_eq]
    constructor
    · intro h; exact ⟨by simpa using h, fun j hj => by simp at hj⟩
    · intro h; simpa using h.1
  | p, c :: cs => by
    unfold mtc
    rw [Bool.and_eq_true, Bool.and_eq_true, decide_eq_true_eq, decide_eq_true_eq, mtc_iff]
    rw [List.length_cons]
    constructor
    · rintro ⟨h1, h2, h3, h4⟩
      refine ⟨by omega, fun j hj => ?_⟩
      cases j with
      | zero => exact h2
      | succ j =>
        have := h4 j (by omega)
        rw [show p + 1 + j = p + (j + 1) by omega] at this
        rw [this]
        rfl
    · rintro ⟨h1, h2⟩
      refine ⟨by omega, h2 0 (by omega), by omega, fun j hj => ?_⟩
      have := h2 (j + 1) (by omega)
      rw [show p + 1 + j = p + (j + 1) by omega, this]
      rfl
theorem wrd_ch : ∀ k, k < 19 → ∀ j, j < qa_len k → qa_ch k j = nn ((wrd k).getD j 0) ∧ (wrd k).getD j 0 < 128 := by decide +kernel
theorem wrd_len : ∀ k, k < 19 → (wrd k).length = qa_len k ∧ qa_len k ≤ 30 := by decide +kernel
/-- a byte as the reference keeps it -/
def sx (b : Nat) : Int32 := if b < 128 then nn b else nn b - 256
theorem sx_and : ∀ b, b < 256 → sx b &&& 255 = nn b := by decide +kernel
theorem sx_let : ∀ b, b < 256 → ((¬ (sx b < 97) ∧ ¬ (122 < sx b)) ↔ (97 ≤ b ∧ b ≤ 122)) := by decide +kernel
theorem sx_nn : ∀ b, b < 256 → ∀ c, c < 128 → ((sx b = nn c) ↔ b = c) := by decide +kernel
def TpR (B : Nat → Nat) (n : Nat) (h : qa_M) : Prop := h.1 119 20 = nn n ∧ n ≤ 400 ∧ ∀ j, j < n → B j < 256 ∧ h.1 139 j = sx (B j)
def TpC (B : Nat → Nat) (n : Nat) (h : qa_M) : Prop := h.1 1 1 = nn n ∧ n ≤ 400 ∧ ∀ j, j < n → B j < 256 ∧ h.1 2 j = nn (B j)
theorem TpR_fr {W : List (Nat × Nat)} {B : Nat → Nat} {n : Nat} {h g : qa_M} (t : TpR B n h) (f : qfr W h g) (w1 : inW W 119 20 = false) (w2 : ∀ j, inW W 139 j = false) : TpR B n g := ⟨(f.1 119 20 w1).1.trans t.1, t.2.1, fun j hj => ⟨(t.2.2 j hj).1, (f.1 139 j (w2 j)).1.trans (t.2.2 j hj).2⟩⟩
theorem TpC_fr {W : List (Nat × Nat)} {B : Nat → Nat} {n : Nat} {h g : qa_M} (t : TpC B n h) (f : qfr W h g) (w1 : inW W 1 1 = false) (w2 : ∀ j, inW W 2 j = false) : TpC B n g := ⟨(f.1 1 1 w1).1.trans t.1, t.2.1, fun j hj => ⟨(t.2.2 j hj).1, (f.1 2 j (w2 j)).1.trans (t.2.2 j hj).2⟩⟩
/-! the reference -/
def sgn (B : Nat → Nat) (n p : Nat) : Int32 := if p < n then nn (B p) else -1
theorem r_sign {B : Nat → Nat} {n p : Nat} {h : qa_M} (t : TpR B n h) (e : h.1 119 21 = nn p) (hp : p < 2147483648) : m_X12_sign h = some (sgn B n p, h) := by
  obtain ⟨t1, t2, t3⟩ := t
  unfold m_X12_sign sgn
  rw [t1, e]
  by_cases c : p < n
  · rw [if_neg (fun q => by rw [nn_le (by omega) (by omega)] at q; omega), if_pos c, qck_nn (by omega) (by omega), nn_cl (by omega), (t3 p c).2, sx_and _ (t3 p c).1]
  · rw [if_pos ((nn_le (by omega) (by omega)).mpr (by omega)), if_neg c]
theorem sgn_eq {B : Nat → Nat} {n p c : Nat} (hB : p < n → B p < 256) (hc : c < 256) : (sgn B n p = nn c) ↔ (p < n ∧ B p = c) := by
  unfold sgn
  by_cases q : p < n
  · rw [if_pos q, nn_eq (by have := hB q; omega) (by omega)]
    exact ⟨fun x => ⟨q, x⟩, fun x => x.2⟩
  · rw [if_neg q]
    constructor
    · intro x; exact absurd x.symm (nn_ne1 (by omega))
    · intro x; exact absurd x.1 q
theorem r_blanks {B : Nat → Nat} {n p : Nat} {h : qa_M} (t : TpR B n h) (e : h.1 119 21 = nn p) (hp : p ≤ n) : qW (m_X12_blanks h) (fun g => g.1 119 21 = nn (sk B n p)) := by
  have h4 := t.2.1
  unfold m_X12_blanks f_X12_blanks_b0_loop
  have hle := sk_le (B := B) hp
  have hge := sk_ge (B := B) (n := n) (p := p)
  refine qW_for (sk B n p - p) (fun k g => g.1 119 21 = nn (p + k) ∧ qfr [(119, 22)] h g) ?_ ?_ (Nat.zero_le _) ⟨e, qfr_rf⟩
  · rintro k g hk ⟨eg, f⟩
    have tg := TpR_fr t f rfl (fun j => rfl)
    have hs := sk_in (B := B) (n := n) (p := p) (j := p + k) (by omega) (by omega)
    unfold isS at hs
    rw [Bool.and_eq_true, decide_eq_true_eq, decide_eq_true_eq] at hs
    show qW (f_X12_blanks_b0 g) _
    unfold f_X12_blanks_b0
    rw [r_sign tg eg (by omega), qbn_s, show (32 : Int32) = nn 32 from rfl, if_pos ((sgn_eq (fun q => (t.2.2 _ q).1) (by omega)).mpr hs), qbd_e, qW_some, eg, nn_add1]
    exact ⟨wI_at, qfr_tr f (qfr_Ik rfl (by simp) qfr_rf)⟩
  · rintro g ⟨eg, f⟩
    have tg := TpR_fr t f rfl (fun j => rfl)
    rw [show p + (sk B n p - p) = sk B n p by omega] at eg
    have hs := sk_end (B := B) (n := n) (p := p)
    show qW (f_X12_blanks_b0 g) _
    unfold f_X12_blanks_b0
    rw [r_sign tg eg (by omega), qbn_s, show (32 : Int32) = nn 32 from rfl, if_neg (fun q => by
      have q := (sgn_eq (fun q => (t.2.2 _ q).1) (by omega)).mp q
      unfold isS at hs
      rw [decide_eq_true q.1, decide_eq_true q.2] at hs
      cases hs), qup_s, qW_some]
    exact eg
theorem r_isDigit {B : Nat → Nat} {n p : Nat} {h : qa_M} (t : TpR B n h) (e : h.1 119 21 = nn p) (hp : p < 2147483648) : m_X12_isDigit h = some (bi (isD B n p), h) := by
  unfold m_X12_isDigit
  rw [r_sign t e hp, qbn_s, r_in, qbn_s, qpr_t bi_01]
  congr 3
  unfold sgn isD
  rw [i64_i, show (48 : Int64).toInt = 48 from rfl, show (57 : Int64).toInt = 57 from rfl]
  by_cases c : p < n
  · have := (t.2.2 p c).1
    rw [if_pos c, nn_toInt (by omega), decide_eq_true c, Bool.true_and]
    rw [Bool.eq_iff_iff, decide_eq_true_eq, decide_eq_true_eq]
    omega
  · rw [if_neg c, decide_eq_false c]
    rfl
/-- stood: this word, whole -/
theorem r_stood {B : Nat → Nat} {n p k : Nat} {h : qa_M} (t : TpR B n h) (e : h.1 119 21 = nn p) (hp : p ≤ n) (hk : k < 19) : m_X12_stood k h = some (bi (wis B n p k), h) := by
  obtain ⟨t1, t2, t3⟩ := t
  have hle := wd_le (B := B) hp
  have hge := wd_ge (B := B) (n := n) (p := p)
  obtain ⟨l1, l2⟩ := wrd_len k hk
  have fin : ∀ (b : Bool), (b = true → p + qa_len k = wd B n p) → f_X12_stood_b63_loop k (bi b) (nn 0) h = some (bi (b && decide (∀ j, j < qa_len k → B (p + j) = (wrd k).getD j 0)), h) := by
    intro b hb
    unfold f_X12_stood_b63_loop
    have hst : ∀ j, j < qa_len k → b = true → f_X12_stood_b63 k 1 (nn j) h = some (.inl (bi (decide (B (p + j) = (wrd k).getD j 0)), nn (j + 1), h)) := by
      intro j hj hb1
      have hpj : p + j < n := by have := hb hb1; omega
      obtain ⟨c1, c2⟩ := wrd_ch k hk j hj
      unfold f_X12_stood_b63
      rw [nn_ofN, if_neg (fun q => by rw [nn_le (by omega) (by omega)] at q; omega), if_neg (by decide), e, nn_add, qck_nn (by omega) (by omega), qck_nn (by omega) (by omega), nn_cl (by omega), nn_cl (by omega), (t3 _ hpj).2, c1]
      unfold f_X12_stood_b102
      by_cases q : B (p + j) = (wrd k).getD j 0
      · rw [if_pos ((sx_nn _ (t3 _ hpj).1 _ c2).mpr q), qbd_e, qbd_e, nn_add1, decide_eq_true q]
        rfl
      · rw [if_neg (fun x => q ((sx_nn _ (t3 _ hpj).1 _ c2).mp x)), qbd_e, qbd_e, nn_add1, decide_eq_false q]
        rfl
    have h0 : ∀ j, j ≤ qa_len k → f_X12_stood_b63 k 0 (nn j) h = some (.inr (0, h)) := by
      intro j hj
      unfold f_X12_stood_b63
      rw [nn_ofN]
      by_cases q : nn (qa_len k) ≤ nn j
      · rw [if_pos q, qpr_t (by decide), qup_s]
      · rw [if_neg q, if_pos rfl, qpr_t (by decide), qup_s]
    cases b with
    | false => exact qlp_out (h0 0 (by omega))
    | true =>
      rcases first_of (fun j => !decide (B (p + j) = (wrd k).getD j 0)) (qa_len k) with ⟨j, hj, a, b⟩ | q
      · have a : ¬ B (p + j) = (wrd k).getD j 0 := by simpa using a
        rw [decide_eq_false (fun x => a (x j hj))]
        have s1 := qlp_for (b := fun sz : Int32 × Int32 × qa_M => f_X12_stood_b63 k sz.1 sz.2.1 sz.2.2) (r := (bi false, h)) (fun i => (if i ≤ j then 1 else 0, nn i, h)) (j + 1) ?_ ?_ 0 (by omega)
        · exact s1
        · intro i hi
          rw [if_pos (by omega)]
          show f_X12_stood_b63 k 1 (nn i) h = _
          rw [hst i (by omega) rfl]
          by_cases c : i = j
          · subst c
            rw [decide_eq_false a, if_neg (by omega)]
            rfl
          · have : B (p + i) = (wrd k).getD i 0 := by simpa using b i (by omega)
            rw [decide_eq_true this, if_pos (by omega)]
            rfl
        · rw [if_neg (by omega)]
          exact h0 (j + 1) (by omega)
      · rw [decide_eq_true (fun j hj => by simpa using q j hj)]
        refine qlp_for0 (b := fun sz : Int32 × Int32 × qa_M => f_X12_stood_b63 k sz.1 sz.2.1 sz.2.2) (r := (bi true, h)) (fun i => (1, nn i, h)) (qa_len k) ?_ ?_
        · intro i hi
          show f_X12_stood_b63 k 1 (nn i) h = _
          rw [hst i hi rfl, decide_eq_true (by simpa using q i hi)]
          rfl
        · show f_X12_stood_b63 k 1 (nn (qa_len k)) h = _
          unfold f_X12_stood_b63
          rw [nn_ofN, if_pos ((nn_le (by omega) (by omega)).mpr (by omega)), qpr_t (by decide), qup_s]
          rfl
  have main : f_X12_stood_b41 k (nn (wd B n p)) h = some (bi (wis B n p k), h) := by
    unfold f_X12_stood_b41 f_X12_stood_b59
    rw [e, nn_sub hge, nn_ofN]
    have hw : wis B n p k = (decide (p + qa_len k = wd B n p) && decide (∀ j, j < qa_len k → B (p + j) = (wrd k).getD j 0)) := by
      unfold wis
      rw [Bool.eq_iff_iff, mtc_iff, l1, Bool.and_eq_true, decide_eq_true_eq, decide_eq_true_eq]
    by_cases c : wd B n p - p = qa_len k
    · rw [if_pos ((nn_eq (by omega) (by omega)).mpr c), qbd_e, qbd_e]
      have := fin true (fun _ => by omega)
      rw [hw, decide_eq_true (show p + qa_len k = wd B n p by omega)]
      exact this
    · rw [if_neg (fun q => c ((nn_eq (by omega) (by omega)).mp q)), qbd_e, qbd_e]
      have := fin false (fun q => by cases q)
      rw [hw, decide_eq_false (show ¬ p + qa_len k = wd B n p by omega)]
      exact this
  unfold m_X12_stood f_X12_stood_b5_loop
  rw [e, qbd_e]
  have s1 := qlp_for0 (b := fun sz : Int32 × qa_M => f_X12_stood_b5 k sz.1 sz.2) (r := (bi (wis B n p k), h)) (fun i => (nn (p + i), h)) (wd B n p - p) ?_ ?_
  · exact s1
  · intro i hi
    have hi2 := wd_in (B := B) (n := n) (p := p) (j := p + i) (by omega) (by omega)
    unfold isL at hi2
    rw [Bool.and_eq_true, decide_eq_true_eq, decide_eq_true_eq] at hi2
    have q := (sx_let _ (t3 _ hi2.1).1).mpr hi2.2
    show f_X12_stood_b5 k (nn (p + i)) h = _
    unfold f_X12_stood_b5
    rw [t1, if_neg (fun q => by rw [nn_le (by omega) (by omega)] at q; omega), qck_nn (by omega) (by omega), nn_cl (by omega), (t3 _ hi2.1).2, if_neg q.1, qck_nn (by omega) (by omega), if_neg q.2, qbd_e, nn_add1]
    rfl
  · show f_X12_stood_b5 k (nn (p + (wd B n p - p))) h = _
    rw [show p + (wd B n p - p) = wd B n p by omega]
    unfold f_X12_stood_b5
    rw [t1]
    by_cases c : n ≤ wd B n p
    · rw [if_pos ((nn_le (by omega) (by omega)).mpr c), main, qup_s]
    · have hi2 := wd_end (B := B) (n := n) (p := p)
      unfold isL at hi2
      rw [decide_eq_true (by omega), Bool.true_and, decide_eq_false_iff_not] at hi2
      have hb := t3 (wd B n p) (by omega)
      have q := fun x => hi2 ((sx_let _ hb.1).mp x)
      rw [if_neg (fun q => by rw [nn_le (by omega) (by omega)] at q; omega), qck_nn (by omega) (by omega), nn_cl (by omega), hb.2]
      by_cases c1 : sx (B (wd B n p)) < 97
      · rw [if_pos c1, main, qup_s]
      · rw [if_neg c1, qck_nn (by omega) (by omega)]
        by_cases c2 : 122 < sx (B (wd B n p))
        · rw [if_pos c2, main, qup_s]
        · exact absurd ⟨c1, c2⟩ q
