/-! THE TAPE: numbers, faults (reference) -/
def ER (q c : Nat) : Nat := 1 + 8 * q + c
def pNum (B : Nat → Nat) (n p lo hi : Nat) : Nat ⊕ (Nat × Nat) :=
  if isD B n (sk B n p) = true then
    if nd B n (sk B n p) - sk B n p ≤ 5 ∧ lo ≤ dv B (sk B n p) (nd B n (sk B n p) - sk B n p) ∧ dv B (sk B n p) (nd B n (sk B n p) - sk B n p) ≤ hi then .inr (dv B (sk B n p) (nd B n (sk B n p) - sk B n p), nd B n (sk B n p))
    else .inl (ER (sk B n p) 1)
  else .inl (ER (sk B n p) 0)
theorem pNum_sk {B : Nat → Nat} {n p lo hi : Nat} : pNum B n (sk B n p) lo hi = pNum B n p lo hi := by unfold pNum; rw [sk_sk]
theorem pNum_ok {B : Nat → Nat} {n p lo hi v e : Nat} (h : pNum B n p lo hi = .inr (v, e)) (hp : p ≤ n) : lo ≤ v ∧ v ≤ hi ∧ p < e ∧ e ≤ n ∧ v ≤ 99999 := by
  unfold pNum at h
  by_cases c : isD B n (sk B n p) = true
  · rw [if_pos c] at h
    by_cases c2 : nd B n (sk B n p) - sk B n p ≤ 5 ∧ lo ≤ dv B (sk B n p) (nd B n (sk B n p) - sk B n p) ∧ dv B (sk B n p) (nd B n (sk B n p) - sk B n p) ≤ hi
    · rw [if_pos c2] at h
      have h := Sum.inr.inj h
      have e1 := (Prod.mk.inj h).1
      have e2 := (Prod.mk.inj h).2
      have a1 := sk_ge (B := B) (n := n) (p := p)
      have a2 := nd_gt c
      have a3 := nd_le (B := B) (sk_le (B := B) hp)
      have a4 := dv_5 (B := B) (n := n) (p := sk B n p) (k := nd B n (sk B n p) - sk B n p) (by omega) c2.1
      omega
    · rw [if_neg c2] at h
      cases h
  · rw [if_neg c] at h
    cases h
theorem pNum_er {B : Nat → Nat} {n p lo hi f : Nat} (h : pNum B n p lo hi = .inl f) (hp : p ≤ n) : 0 < f ∧ f < 10000 + 8 * n := by
  have a1 := sk_le (B := B) hp
  unfold pNum ER at h
  by_cases c : isD B n (sk B n p) = true
  · rw [if_pos c] at h
    by_cases c2 : nd B n (sk B n p) - sk B n p ≤ 5 ∧ lo ≤ dv B (sk B n p) (nd B n (sk B n p) - sk B n p) ∧ dv B (sk B n p) (nd B n (sk B n p) - sk B n p) ≤ hi
    · rw [if_pos c2] at h
      cases h
    · rw [if_neg c2] at h
      have := Sum.inl.inj h
      omega
  · rw [if_neg c] at h
    have := Sum.inl.inj h
    omega
theorem r_fails {c q : Nat} {h : qa_M} (e : h.1 119 22 = 0) : m_X12_fails (nn c) (nn q) h = some (qw_I h 119 22 (nn (ER q c))) := by
  unfold m_X12_fails f_X12_fails_b23 ER
  rw [if_pos e, qbd_e, show (8 : Int32) = nn 8 from rfl, show (1 : Int32) = nn 1 from rfl, nn_mul, nn_add, nn_add]
theorem r_failsF {c q : Int32} {h : qa_M} (e : ¬ h.1 119 22 = 0) : m_X12_fails c q h = some (qw_I h 119 22 (h.1 119 22)) := by
  unfold m_X12_fails f_X12_fails_b23
  rw [if_neg e, qbd_e]
/-- fails: a fault stays, or is new -/
theorem r_failsQ {c q : Int32} {h : qa_M} : qW (m_X12_fails c q h) (fun g => ¬ h.1 119 22 = 0 → g.1 119 22 = h.1 119 22) := by
  by_cases e : h.1 119 22 = 0
  · unfold m_X12_fails f_X12_fails_b23
    rw [if_pos e, qbd_e, qW_some]
    exact fun q => absurd e q
  · rw [r_failsF e, qW_some]
    exact fun _ => wI_at
/-- digits of the reference at a digit -/
theorem r_digits {B : Nat → Nat} {n p : Nat} {h : qa_M} (t : TpR B n h) (e : h.1 119 21 = nn p) (hp : p ≤ n) (f0 : h.1 119 22 = 0) (hs : isS B n p = false) :
    qW (m_X12_digits 99999 h) (fun z => match pNum B n p 0 99999 with
      | .inl f => z.2.1 119 22 = nn f ∧ ∃ q, q ≤ n ∧ z.2.1 119 21 = nn q
      | .inr (v, q) => z.1 = nn v ∧ z.2.1 119 22 = 0 ∧ z.2.1 119 21 = nn q) := by
  have h4 := t.2.1
  have hle := nd_le (B := B) hp
  have hge := nd_ge (B := B) (n := n) (p := p)
  unfold m_X12_digits pNum
  rw [sk_id hs, r_isDigit t e (by omega), qbn_s]
  simp only [bi_e0]
  cases c : isD B n p with
  | false =>
    rw [if_pos rfl, if_neg (by decide), e, show (0 : Int32) = nn 0 from rfl, r_fails f0, qbv_s, qW_some]
    exact ⟨wI_at, p, hp, by rw [wI_ne (by omega)]; exact e⟩
  | true =>
    rw [if_neg (by decide), if_pos rfl, e, qbd_e, qbd_e]
    unfold f_X12_digits_b25_loop
    refine qW_for (nd B n p - p) (fun k z => ∃ g, z = (99999, nn p, nn (dv B p (min k 5)), g) ∧ g.1 119 21 = nn (p + k) ∧ qfr [(119, 22)] h g) ?_ ?_ (Nat.zero_le _) ⟨h, rfl, e, qfr_rf⟩
    · rintro k z hk ⟨g, rfl, eg, f⟩
      have tg := TpR_fr t f rfl (fun j => rfl)
      have hd := nd_in (B := B) (n := n) (p := p) (j := p + k) (by omega) (by omega)
      show qW (f_X12_digits_b25 99999 (nn p) (nn (dv B p (min k 5))) g) _
      unfold f_X12_digits_b25
      rw [r_isDigit tg eg (by omega), qbn_s, hd, if_neg (by decide), eg, nn_sub (by omega), show p + k - p = k by omega]
      unfold isD at hd
      rw [Bool.and_eq_true, decide_eq_true_eq, decide_eq_true_eq] at hd
      by_cases c5 : k < 5
      · rw [if_neg (fun q => by rw [show (5 : Int32) = nn 5 from rfl, nn_le (by omega) (by omega)] at q; omega), r_sign tg eg (by omega), qbn_s]
        unfold f_X12_digits_b58 sgn
        rw [if_pos hd.1, qbd_e, qbd_e, qW_some, eg, nn_add1]
        refine ⟨qw_I g 119 21 (nn (p + k + 1)), ?_, wI_at, qfr_tr f (qfr_Ik rfl (by simp) qfr_rf)⟩
        rw [show min k 5 = k by omega, show min (k + 1) 5 = k + 1 by omega, show (10 : Int32) = nn 10 from rfl, show (48 : Int32) = nn 48 from rfl, nn_mul, nn_add, nn_sub (by omega)]
        show _ = (99999, nn p, nn (10 * dv B p k + (B (p + k) - 48)), _)
        rw [show 10 * dv B p k + B (p + k) - 48 = 10 * dv B p k + (B (p + k) - 48) by omega]
      · rw [if_pos (by exact (nn_le (a := 5) (by omega) (by omega)).mpr (by omega))]
        unfold f_X12_digits_b58
        rw [qbd_e, qbd_e, qW_some, eg, nn_add1]
        refine ⟨qw_I g 119 21 (nn (p + k + 1)), ?_, wI_at, qfr_tr f (qfr_Ik rfl (by simp) qfr_rf)⟩
        rw [show min k 5 = 5 by omega, show min (k + 1) 5 = 5 by omega]
    · rintro z ⟨g, rfl, eg, f⟩
      have tg := TpR_fr t f rfl (fun j => rfl)
      rw [show p + (nd B n p - p) = nd B n p by omega] at eg
      show qW (f_X12_digits_b25 99999 (nn p) (nn (dv B p (min (nd B n p - p) 5))) g) _
      unfold f_X12_digits_b25
      rw [r_isDigit tg eg (by omega), qbn_s, nd_end, if_pos (by decide)]
      unfold f_X12_digits_b72 f_X12_digits_b87
      have f0g : g.1 119 22 = 0 := by rw [(f.1 119 22 rfl).1, f0]
      rw [eg, nn_sub hge]
      by_cases c5 : nd B n p - p ≤ 5
      · have h9 := dv_5 (B := B) (n := n) (p := p) (k := nd B n p - p) (by omega) c5
        rw [if_neg (fun q => by rw [show (5 : Int32) = nn 5 from rfl, nn_lt (by omega) (by omega)] at q; omega), show min (nd B n p - p) 5 = nd B n p - p by omega, if_pos (show nn _ ≤ 99999 from (nn_le (b := 99999) (by omega) (by omega)).mpr h9), qup_s, qW_some, if_pos ⟨c5, by omega, h9⟩]
        exact ⟨rfl, f0g, eg⟩
      · rw [if_pos (by exact (nn_lt (a := 5) (by omega) (by omega)).mpr (by omega)), show (1 : Int32) = nn 1 from rfl, r_fails f0g, qbv_s, qup_s, qW_some, if_neg (fun q => c5 q.1)]
        exact ⟨wI_at, nd B n p, hle, by rw [wI_ne (by omega)]; exact eg⟩
/-- amount, while there is no fault -/
theorem r_amount {B : Nat → Nat} {n p lo hi : Nat} {h : qa_M} (t : TpR B n h) (e : h.1 119 21 = nn p) (hp : p ≤ n) (f0 : h.1 119 22 = 0) (hlo : lo < 2147483648) (hhi : hi < 2147483648) (h9 : hi ≤ 99999) :
    qW (m_X12_amount (nn lo) (nn hi) h) (fun z => match pNum B n p lo hi with
      | .inl f => z.2.1 119 22 = nn f ∧ ∃ q, q ≤ n ∧ z.2.1 119 21 = nn q
      | .inr (v, q) => z.1 = nn v ∧ z.2.1 119 22 = 0 ∧ z.2.1 119 21 = nn q) := by
  have h4 := t.2.1
  have hle := sk_le (B := B) hp
  unfold m_X12_amount
  rw [qW_bv]
  refine qW_fr (r_blanks t e hp) (fun z e => fr_X12_blanks _ e) ?_
  intro g eg f
  have f : qfr [(119, 22)] h g := f
  have tg := TpR_fr t f rfl (fun j => rfl)
  have f0g : g.1 119 22 = 0 := by rw [(f.1 119 22 rfl).1, f0]
  rw [qbd_e, if_pos f0g, qW_bn, eg]
  refine qW_mono (r_digits tg eg hle f0g sk_end) ?_
  rintro ⟨x, g2⟩ hz
  have hx : pNum B n p lo hi = match pNum B n (sk B n p) 0 99999 with
      | .inl f => .inl f
      | .inr (v, q) => if lo ≤ v ∧ v ≤ hi then .inr (v, q) else .inl (ER (sk B n p) 1) := by
    rw [pNum_sk]
    unfold pNum
    by_cases c : isD B n (sk B n p) = true
    · rw [if_pos c, if_pos c]
      by_cases c5 : nd B n (sk B n p) - sk B n p ≤ 5
      · have h9 := dv_5 (B := B) (n := n) (p := sk B n p) (k := nd B n (sk B n p) - sk B n p) (by have := nd_ge (B := B) (n := n) (p := sk B n p); omega) c5
        have P1 : nd B n (sk B n p) - sk B n p ≤ 5 ∧ 0 ≤ dv B (sk B n p) (nd B n (sk B n p) - sk B n p) ∧ dv B (sk B n p) (nd B n (sk B n p) - sk B n p) ≤ 99999 := ⟨c5, Nat.zero_le _, h9⟩
        rw [if_pos P1]
        by_cases c2 : lo ≤ dv B (sk B n p) (nd B n (sk B n p) - sk B n p) ∧ dv B (sk B n p) (nd B n (sk B n p) - sk B n p) ≤ hi
        · rw [if_pos ⟨c5, c2⟩]
          show _ = if _ then _ else _
          rw [if_pos c2]
        · rw [if_neg (fun q => c2 q.2)]
          show _ = if _ then _ else _
          rw [if_neg c2]
      · rw [if_neg (fun q => c5 q.1), if_neg (fun q => c5 q.1)]
    · rw [if_neg c, if_neg c]
  rw [hx]
  show qW (f_X12_amount_b27 (nn lo) (nn hi) (nn (sk B n p)) x g2) _
  unfold f_X12_amount_b27
  rw [qbd_e]
  cases q : pNum B n (sk B n p) 0 99999 with
  | inl f2 =>
    rw [q] at hz
    have hz : g2.1 119 22 = nn f2 ∧ ∃ q, q ≤ n ∧ g2.1 119 21 = nn q := hz
    have hf := pNum_er q hle
    have n0 : ¬ g2.1 119 22 = 0 := by rw [hz.1, show (0 : Int32) = nn 0 from rfl, nn_eq (by omega) (by omega)]; omega
    rw [if_neg n0, qW_some]
    exact hz
  | inr v =>
    obtain ⟨v, e2⟩ := v
    rw [q] at hz
    obtain ⟨z1, z2, z3⟩ := hz
    have z1 : x = nn v := z1
    have z2 : g2.1 119 22 = 0 := z2
    have hv := (pNum_ok q hle).2.2.2.2
    subst z1
    rw [if_pos z2, r_in, qbn_s, nn_64i hlo, nn_64i hhi, nn_64i (n := v) (by omega)]
    show qW _ (fun z : Int32 × qa_M => match (if lo ≤ v ∧ v ≤ hi then (.inr (v, e2) : Nat ⊕ (Nat × Nat)) else .inl (ER (sk B n p) 1)) with
      | .inl f => z.2.1 119 22 = nn f ∧ ∃ q, q ≤ n ∧ z.2.1 119 21 = nn q
      | .inr (v, q) => z.1 = nn v ∧ z.2.1 119 22 = 0 ∧ z.2.1 119 21 = nn q)
    by_cases c : lo ≤ v ∧ v ≤ hi
    · rw [decide_eq_true (by omega), if_neg (by decide), qW_some, if_pos c]
      exact ⟨rfl, z2, z3⟩
    · rw [decide_eq_false (by omega), if_pos (by decide), show (1 : Int32) = nn 1 from rfl, r_fails z2, qbv_s, qW_some, if_neg c]
      exact ⟨wI_at, e2, (pNum_ok q hle).2.2.2.1, by rw [wI_ne (by omega)]; exact z3⟩
/-- amount, behind a fault -/
theorem r_amountF {B : Nat → Nat} {n p : Nat} {lo hi : Int32} {h : qa_M} (t : TpR B n h) (e : h.1 119 21 = nn p) (hp : p ≤ n) (f0 : ¬ h.1 119 22 = 0) : qW (m_X12_amount lo hi h) (fun z => z.2.1 119 22 = h.1 119 22 ∧ z.2.1 119 21 = nn (sk B n p) ∧ z.1 = 0) := by
  unfold m_X12_amount
  rw [qW_bv]
  refine qW_fr (r_blanks t e hp) (fun z e => fr_X12_blanks _ e) ?_
  intro g eg f
  have f : qfr [(119, 22)] h g := f
  have f0g : ¬ g.1 119 22 = 0 := by rw [(f.1 119 22 rfl).1]; exact f0
  rw [qbd_e, if_neg f0g]
  unfold f_X12_amount_b27
  rw [qbd_e, if_neg f0g, qW_some]
  exact ⟨(f.1 119 22 rfl).1, eg, rfl⟩
