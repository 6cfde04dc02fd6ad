/-! A LAW IS READ: the reference's values -/
def RM (k : Nat) (E : Cd) (h : qa_M) : Prop := h.1 119 25 = nn E.length ∧ h.1 119 23 = nn k ∧ ∀ i, i < E.length → h.1 140 (300 * k + i) = nn (E.getD i (0, 0)).1 ∧ h.1 141 (300 * k + i) = nn (E.getD i (0, 0)).2
def dpt : List Nat → Nat
  | [] => 0
  | x :: O => dpt O + (if x = 9 ∨ x = 12 then 1 else 0)
def SKo (O : List Nat) (h : qa_M) : Prop := h.1 119 28 = nn O.length ∧ stk (h.1 148) O ∧ h.1 119 26 = nn (dpt O)
def LR2 (k : Nat) (B : Nat → Nat) (n p : Nat) (E : Cd) (c : Nat) (O : List Nat) (h : qa_M) : Prop := TpR B n h ∧ h.1 119 21 = nn p ∧ h.1 119 22 = 0 ∧ RM k E h ∧ h.1 119 27 = nn c ∧ h.1 119 29 = 7 ∧ SKo O h
def LF (B : Nat → Nat) (n f : Nat) (h : qa_M) : Prop := RG B n f h ∧ erB n f ∧ h.1 119 29 = 7
theorem LF.n0 {B : Nat → Nat} {n f : Nat} {h : qa_M} (r : LF B n f h) : ¬ h.1 119 22 = 0 := by
  obtain ⟨⟨t, _, e⟩, ⟨h1, h2⟩, _⟩ := r
  have := t.2.1
  rw [e, show (0 : Int32) = nn 0 from rfl, nn_eq (by omega) (by omega)]
  omega
def RPo (k : Nat) (B : Nat → Nat) (n : Nat) (O : List Nat) (r : PS) (g : qa_M) : Prop := match r with
  | .inl f => LF B n f g
  | .inr r => LR2 k B n r.1 r.2.1 r.2.2 O g
theorem RM_fr {W : List (Nat × Nat)} {k : Nat} {E : Cd} {h g : qa_M} (r : RM k E h) (f : qfr W h g) (w1 : inW W 119 25 = false) (w2 : inW W 119 23 = false) (w3 : ∀ b j, 140 ≤ b → b ≤ 141 → inW W b j = false) : RM k E g := ⟨(f.1 119 25 w1).1.trans r.1, (f.1 119 23 w2).1.trans r.2.1, fun i hi => ⟨(f.1 140 _ (w3 _ _ (by omega) (by omega))).1.trans (r.2.2 i hi).1, (f.1 141 _ (w3 _ _ (by omega) (by omega))).1.trans (r.2.2 i hi).2⟩⟩
theorem SKo_fr {W : List (Nat × Nat)} {O : List Nat} {h g : qa_M} (r : SKo O h) (f : qfr W h g) (w1 : inW W 119 28 = false) (w2 : inW W 119 26 = false) (w3 : ∀ j, inW W 148 j = false) : SKo O g := ⟨(f.1 119 28 w1).1.trans r.1, stk_up r.2.1 (fun j hj => (f.1 148 j (w3 j)).1), (f.1 119 26 w2).1.trans r.2.2⟩
/-- only the place changes -/
theorem LR2_p {k : Nat} {B : Nat → Nat} {n p p2 : Nat} {E : Cd} {c : Nat} {O : List Nat} {h g : qa_M} (r : LR2 k B n p E c O h) (f : qfr [(119, 22)] h g) (e : g.1 119 21 = nn p2) : LR2 k B n p2 E c O g := by
  obtain ⟨t, _, f0, m, hc, h7, s⟩ := r
  exact ⟨TpR_fr t f rfl (fun j => rfl), e, by rw [(f.1 119 22 rfl).1]; exact f0, RM_fr m f rfl rfl (fun b j h1 h2 => by unfold inW; simp; omega), by rw [(f.1 119 27 rfl).1]; exact hc, by rw [(f.1 119 29 rfl).1]; exact h7, SKo_fr s f rfl rfl (fun j => rfl)⟩
theorem LF_p {B : Nat → Nat} {n f p2 : Nat} {h g : qa_M} (r : LF B n f h) (fr : qfr [(119, 22)] h g) (e : g.1 119 21 = nn p2) (hp : p2 ≤ n) : LF B n f g := by
  obtain ⟨⟨t, _, e2⟩, er, h7⟩ := r
  exact ⟨⟨TpR_fr t fr rfl (fun j => rfl), ⟨p2, hp, e⟩, by rw [(fr.1 119 22 rfl).1]; exact e2⟩, er, by rw [(fr.1 119 29 rfl).1]; exact h7⟩
theorem LF_keep {W : List (Nat × Nat)} {B : Nat → Nat} {n f : Nat} {h g : qa_M} (r : LF B n f h) (fr : qfr W h g) (w1 : inW W 119 20 = false) (w2 : inW W 119 21 = false) (w3 : inW W 119 22 = false) (w4 : ∀ j, inW W 139 j = false) (w5 : inW W 119 29 = false) : LF B n f g := ⟨RG_up r.1 fr w1 w2 w3 w4, r.2.1, by rw [(fr.1 119 29 w5).1]; exact r.2.2⟩
/-- a fault comes -/
theorem LF_new {k : Nat} {B : Nat → Nat} {n p : Nat} {E : Cd} {c : Nat} {O : List Nat} {h : qa_M} {q x : Nat} (r : LR2 k B n p E c O h) (hp : p ≤ n) (hq : q ≤ n) (hx : x ≤ 5) : m_X12_fails (nn x) (nn q) h = some (qw_I h 119 22 (nn (ER q x))) ∧ LF B n (ER q x) (qw_I h 119 22 (nn (ER q x))) := by
  refine ⟨r_fails r.2.2.1, ⟨TpR_fr r.1 (qfr_Ik (L := [(119, 23)]) rfl (by simp) qfr_rf) rfl (fun j => rfl), ⟨p, hp, by rw [wI_ne (by omega)]; exact r.2.1⟩, wI_at⟩, ER_b hq hx, by rw [wI_ne (by omega)]; exact r.2.2.2.2.2.1⟩
theorem r_blk {k : Nat} {B : Nat → Nat} {n p : Nat} {E : Cd} {c : Nat} {O : List Nat} {h : qa_M} (r : LR2 k B n p E c O h) (hp : p ≤ n) : qW (m_X12_blanks h) (LR2 k B n (sk B n p) E c O) := by
  refine qW_fr (r_blanks r.1 r.2.1 hp) (fun z e => fr_X12_blanks _ e) ?_
  intro g e f
  exact LR2_p r f e
theorem r_blkF {B : Nat → Nat} {n f : Nat} {h : qa_M} (r : LF B n f h) : qW (m_X12_blanks h) (LF B n f) := by
  obtain ⟨p, hp, e⟩ := r.1.2.1
  refine qW_fr (r_blanks r.1.1 e hp) (fun z e => fr_X12_blanks _ e) ?_
  intro g e2 fr
  exact LF_p r fr e2 (sk_le hp)
theorem r_entry {k : Nat} {B : Nat → Nat} {n p : Nat} {E : Cd} {c : Nat} {O : List Nat} {h : qa_M} {x v : Nat} (hk : k < 4) (r : LR2 k B n p E c O h) (hl : E.length ≤ 299) : qW (m_X12_entry (nn x) (nn v) h) (LR2 k B n p (E ++ [(x, v)]) c O) := by
  obtain ⟨t, e, f0, ⟨m1, m2, m3⟩, hc, h7, s⟩ := r
  unfold m_X12_entry
  rw [if_pos f0, m1, m2, show (300 : Int32) = nn 300 from rfl, nn_mul, nn_add, qck_nn (by omega) (by omega), qbd_e, nn_cl (by omega), wI_ne (by omega), wI_ne (by omega), m1, m2, nn_mul, nn_add, qck_nn (by omega) (by omega), qbd_e, nn_cl (by omega), wI_ne (by omega), wI_ne (by omega), m1, nn_add1, qbd_e, qW_some]
  have f1 : qfr [(119, 26), (140, 0), (141, 0)] h (qw_I (qw_I (qw_I h 140 (300 * k + E.length) (nn x)) 141 (300 * k + E.length) (nn v)) 119 25 (nn (E.length + 1))) := qfr_Ik rfl (by simp) (qfr_I0 rfl (by simp) (qfr_I0 rfl (by simp) qfr_rf))
  refine ⟨TpR_fr t f1 rfl (fun j => rfl), by rw [(f1.1 119 21 rfl).1]; exact e, by rw [(f1.1 119 22 rfl).1]; exact f0, ⟨?_, by rw [(f1.1 119 23 rfl).1]; exact m2, fun i hi => ?_⟩, by rw [(f1.1 119 27 rfl).1]; exact hc, by rw [(f1.1 119 29 rfl).1]; exact h7, SKo_fr s f1 rfl rfl (fun j => rfl)⟩
  · rw [wI_at, List.length_append]
    rfl
  · rw [List.length_append] at hi
    have hi : i < E.length + 1 := hi
    by_cases ci : i = E.length
    · subst ci
      rw [wI_ne (by omega), wI_ne (by omega), wI_at, wI_ne (by omega), wI_at, List.getD_eq_getElem?_getD, List.getElem?_append_right (Nat.le_refl _), Nat.sub_self]
      exact ⟨rfl, rfl⟩
    · rw [wI_ne (by omega), wI_ne (by omega), wI_ne (by omega), wI_ne (by omega), wI_ne (by omega), wI_ne (by omega), List.getD_eq_getElem?_getD, List.getElem?_append_left (by omega), ← List.getD_eq_getElem?_getD]
      exact m3 i (by omega)
theorem r_entryF {B : Nat → Nat} {n f : Nat} {h : qa_M} {x v : Int32} (r : LF B n f h) : m_X12_entry x v h = some h := by
  unfold m_X12_entry
  rw [if_neg r.n0]
theorem r_countF {B : Nat → Nat} {n f : Nat} {h : qa_M} {x : Int32} (r : LF B n f h) : qW (m_X12_isCounted x h) (fun g => LF B n f g ∧ g.1 119 21 = h.1 119 21) := by
  unfold m_X12_isCounted f_X12_isCounted_b15
  have f1 : ∀ g v, qfr [(119, 28)] g (qw_I g 119 27 v) := fun g v => qfr_Ik rfl (by simp) qfr_rf
  by_cases c : h.1 119 27 = 60
  · rw [if_pos c, r_failsF r.n0, qbv_s, qbd_e, qW_some]
    have f2 : qfr [(119, 23)] h (qw_I h 119 22 (h.1 119 22)) := qfr_Ik rfl (by simp) qfr_rf
    have r2 : LF B n f (qw_I h 119 22 (h.1 119 22)) := by
      obtain ⟨⟨t, ⟨p, hp, e⟩, e2⟩, er, h7⟩ := r
      exact ⟨⟨TpR_fr t f2 rfl (fun j => rfl), ⟨p, hp, by rw [wI_ne (by omega)]; exact e⟩, by rw [wI_at]; exact e2⟩, er, by rw [wI_ne (by omega)]; exact h7⟩
    exact ⟨LF_keep r2 (f1 _ _) rfl rfl rfl (fun j => rfl) rfl, by rw [wI_ne (by omega), wI_ne (by omega)]⟩
  · rw [if_neg c, qbd_e, qW_some]
    exact ⟨LF_keep r (f1 _ _) rfl rfl rfl (fun j => rfl) rfl, by rw [wI_ne (by omega)]⟩
theorem r_count {k : Nat} {B : Nat → Nat} {n p : Nat} {E : Cd} {c : Nat} {O : List Nat} {h : qa_M} {q : Nat} (r : LR2 k B n p E c O h) (hp : p ≤ n) (hq : q ≤ n) (hc : c ≤ 60) : qW (m_X12_isCounted (nn q) h) (fun g => if c = 60 then LF B n (ER q 3) g ∧ g.1 119 21 = nn p else LR2 k B n p E (c + 1) O g) := by
  have r0 := r
  obtain ⟨t, e, f0, m, hcc, h7, s⟩ := r
  unfold m_X12_isCounted f_X12_isCounted_b15
  by_cases c6 : c = 60
  · obtain ⟨a1, a2⟩ := LF_new (q := q) (x := 3) r0 hp hq (by omega)
    rw [if_pos (by rw [hcc, c6]; rfl), show (3 : Int32) = nn 3 from rfl, a1, qbv_s, qbd_e, qW_some, if_pos c6]
    exact ⟨LF_keep (W := [(119, 28)]) a2 (qfr_Ik rfl (by simp) qfr_rf) rfl rfl rfl (fun j => rfl) rfl, by rw [wI_ne (by omega), wI_ne (by omega)]; exact e⟩
  · rw [if_neg (fun q => by rw [hcc, show (60 : Int32) = nn 60 from rfl, nn_eq (by omega) (by omega)] at q; exact c6 q), qbd_e, qW_some, if_neg c6, hcc, nn_add1]
    have f1 : qfr [(119, 28)] h (qw_I h 119 27 (nn (c + 1))) := qfr_Ik rfl (by simp) qfr_rf
    exact ⟨TpR_fr t f1 rfl (fun j => rfl), by rw [(f1.1 119 21 rfl).1]; exact e, by rw [(f1.1 119 22 rfl).1]; exact f0, RM_fr m f1 rfl rfl (fun b j h1 h2 => by unfold inW; simp; omega), wI_at, by rw [(f1.1 119 29 rfl).1]; exact h7, SKo_fr s f1 rfl rfl (fun j => rfl)⟩
/-- digits, behind a fault -/
theorem r_digitsF {B : Nat → Nat} {n f p : Nat} {h : qa_M} (r : LF B n f h) (e : h.1 119 21 = nn p) (hp : p ≤ n) : qW (m_X12_digits 99999 h) (fun z => LF B n f z.2) := by
  have t := r.1.1
  have h4 := t.2.1
  have hle := nd_le (B := B) hp
  have hge := nd_ge (B := B) (n := n) (p := p)
  have fk : ∀ (g : qa_M) (x y : Int32), LF B n f g → qW (m_X12_fails x y g) (LF B n f) := by
    intro g x y rg
    rw [r_failsF rg.n0, qW_some]
    obtain ⟨⟨t, ⟨p, hp, e⟩, e2⟩, er, h7⟩ := rg
    exact ⟨⟨TpR_fr t (qfr_Ik (L := [(119, 23)]) rfl (by simp) qfr_rf) rfl (fun j => rfl), ⟨p, hp, by rw [wI_ne (by omega)]; exact e⟩, by rw [wI_at]; exact e2⟩, er, by rw [wI_ne (by omega)]; exact h7⟩
  unfold m_X12_digits
  rw [r_isDigit t e (by omega), qbn_s]
  cases c : isD B n p with
  | false =>
    rw [if_pos (by decide), qW_bv]
    refine qW_mono (fk _ _ _ r) ?_
    intro g rg
    rw [qW_some]
    exact rg
  | true =>
    rw [if_neg (by decide), e, qbd_e, qbd_e]
    unfold f_X12_digits_b25_loop
    refine qW_for (nd B n p - p) (fun k z => ∃ x g, z = (99999, nn p, x, g) ∧ g.1 119 21 = nn (p + k) ∧ LF B n f g) ?_ ?_ (Nat.zero_le _) ⟨_, h, rfl, e, r⟩
    · rintro k z hk ⟨x, g, rfl, eg, rg⟩
      have tg := rg.1.1
      have hd := nd_in (B := B) (n := n) (p := p) (j := p + k) (by omega) (by omega)
      show qW (f_X12_digits_b25 99999 (nn p) x g) _
      unfold f_X12_digits_b25
      rw [r_isDigit tg eg (by omega), qbn_s, hd, if_neg (by decide), eg, nn_sub (by omega), show p + k - p = k by omega]
      have fin : ∀ v : Int32, qW (f_X12_digits_b58 99999 (nn p) v g) (Sum.elim (fun z => ∃ x g, z = (99999, nn p, x, g) ∧ g.1 119 21 = nn (p + (k + 1)) ∧ LF B n f g) (fun z => LF B n f z.2)) := by
        intro v
        unfold f_X12_digits_b58
        rw [qbd_e, qbd_e, qW_some, eg, nn_add1]
        exact ⟨v, qw_I g 119 21 (nn (p + k + 1)), rfl, wI_at, LF_p (p2 := p + k + 1) rg (qfr_Ik rfl (by simp) qfr_rf) wI_at (by omega)⟩
      by_cases c5 : k < 5
      · rw [if_neg (fun q => by rw [show (5 : Int32) = nn 5 from rfl, nn_le (by omega) (by omega)] at q; omega), r_sign tg eg (by omega), qbn_s]
        exact fin _
      · rw [if_pos (by exact (nn_le (a := 5) (by omega) (by omega)).mpr (by omega))]
        exact fin _
    · rintro z ⟨x, g, rfl, eg, rg⟩
      have tg := rg.1.1
      rw [show p + (nd B n p - p) = nd B n p by omega] at eg
      show qW (f_X12_digits_b25 99999 (nn p) x g) _
      unfold f_X12_digits_b25 f_X12_digits_b72 f_X12_digits_b87
      rw [r_isDigit tg eg (by omega), qbn_s, nd_end, if_pos (by decide), qW_up]
      refine qW_ite.mpr ⟨fun _ => ?_, fun _ => qW_ite.mpr ⟨fun _ => ?_, fun _ => ?_⟩⟩
      · rw [qW_bv]
        exact qW_mono (fk _ _ _ rg) (fun g2 rg2 => qW_some.mpr rg2)
      · exact qW_some.mpr rg
      · rw [qW_bv]
        exact qW_mono (fk _ _ _ rg) (fun g2 rg2 => qW_some.mpr rg2)
def wlN : Nat → Nat
  | 0 => 12
  | 1 => 13
  | 2 => 14
  | 3 => 15
  | 4 => 7
  | 5 => 8
  | _ => 16
theorem wordOf_eq : ∀ k, k < 7 → ∀ h, m_X12_wordOf (nn k) h = some (wlN k, h) := by
  intro k hk h
  have k5 : k = 0 ∨ k = 1 ∨ k = 2 ∨ k = 3 ∨ k = 4 ∨ k = 5 ∨ k = 6 := by omega
  rcases k5 with rfl | rfl | rfl | rfl | rfl | rfl | rfl <;> rfl
theorem wlN_lt : ∀ k, k < 7 → wlN k < 19 := by decide
/-- along the seven words -/
theorem r_words {B : Nat → Nat} {n q : Nat} {h : qa_M} {P : qa_M → Prop} (t : TpR B n h) (e : h.1 119 21 = nn q) (hq : q ≤ n) (h7 : h.1 119 29 = 7) {x : Int32}
    (h0 : amN B n q [12, 13, 14, 15, 7, 8, 16] 0 = none → qW (f_X12_value_b63 x (nn 7) h) P)
    (h1 : ∀ k, k < 7 → amN B n q [12, 13, 14, 15, 7, 8, 16] 0 = some k → wis B n q (wlN k) = true → qW (f_X12_value_b63 x (nn k) h) P) : qW (f_X12_value_b38_loop x (nn 0) h) P := by
  have along : ∀ (ws : List Nat) (k : Nat), k + ws.length = 7 → (∀ j, j < ws.length → ws[j]? = some (wlN (k + j))) → amN B n q [12, 13, 14, 15, 7, 8, 16] 0 = amN B n q ws k → qW (f_X12_value_b38_loop x (nn k) h) P := by
    intro ws
    induction ws with
    | nil =>
      intro k hk _ ha
      have : k = 7 := by simpa using hk
      subst this
      unfold f_X12_value_b38_loop
      refine qW_lpin ?_
      show qW (f_X12_value_b38 x (nn 7) h) _
      unfold f_X12_value_b38
      rw [h7, if_pos (by decide), qW_up]
      exact h0 (by rw [ha]; rfl)
    | cons w r ih =>
      intro k hk hw ha
      rw [List.length_cons] at hk
      have hwk : w = wlN k := by
        have := hw 0 (by rw [List.length_cons]; omega)
        exact Option.some.inj this
      have hlt := wlN_lt k (by omega)
      unfold f_X12_value_b38_loop
      refine qW_lpin ?_
      show qW (f_X12_value_b38 x (nn k) h) _
      unfold f_X12_value_b38
      rw [h7, if_neg (fun q => by rw [show (7 : Int32) = nn 7 from rfl, nn_le (by omega) (by omega)] at q; omega), wordOf_eq k (by omega)]
      show qW (qpr (wlN k < 19) (qbn (m_X12_stood (wlN k) h) (fun (c51 : Int32) (h51 : qa_M) => if c51 = 0 then qbd (nn k + 1) (fun v57 : Int32 => some (Sum.inl (x, v57, h51))) else qup (f_X12_value_b63 x (nn k) h51)))) _
      rw [qpr_t hlt, r_stood t e hq hlt, qbn_s]
      cases hs : wis B n q (wlN k) with
      | true =>
        rw [if_neg (by decide), qW_up]
        refine h1 k (by omega) ?_ hs
        rw [ha]
        unfold amN
        rw [hwk, hs, if_pos rfl]
      | false =>
        rw [if_pos (by decide), qbd_e, nn_add1, qW_some]
        refine ih (k + 1) (by omega) (fun j hj => ?_) ?_
        · have := hw (j + 1) (by rw [List.length_cons]; omega)
          rw [show k + 1 + j = k + (j + 1) by omega]
          exact this
        · rw [ha]
          show (if wis B n q w then some k else amN B n q r (k + 1)) = _
          rw [hwk, hs, if_neg (by decide)]
  exact along [12, 13, 14, 15, 7, 8, 16] 0 rfl (fun j hj => by
    have hj : j < 7 := hj
    have k5 : j = 0 ∨ j = 1 ∨ j = 2 ∨ j = 3 ∨ j = 4 ∨ j = 5 ∨ j = 6 := by omega
    rcases k5 with rfl | rfl | rfl | rfl | rfl | rfl | rfl <;> rfl) rfl
theorem r_value {k : Nat} {B : Nat → Nat} {n p : Nat} {E : Cd} {c m : Nat} {U : List Bool} {O : List Nat} {h : qa_M} (hk : k < 4) (g : GI n p E c U m) (r : LR2 k B n p E c O h) : qW (m_X12_value h) (RPo k B n O (pVal B n p E c)) := by
  have hp := g.2.2.2.2.2.1
  have hc := g.2.2.2.2.1
  have hlen := g.len
  have hskn := sk_le (B := B) hp
  unfold m_X12_value
  rw [qW_bv]
  refine qW_mono (r_blk r hp) ?_
  intro g1 r1
  have h400 := r1.1.2.1
  rw [qbd_e, r_isDigit r1.1 r1.2.1 (by omega), qbn_s, r1.2.1]
  unfold pVal
  cases cd : isD B n (sk B n p) with
  | true =>
    rw [if_neg (by decide), if_pos rfl, qW_bn]
    refine qW_fr (r_digits r1.1 r1.2.1 hskn r1.2.2.1 sk_end) (fun z e => fr_X12_digits _ _ e) ?_
    rintro ⟨x, g2⟩ hz f2
    have f2 : qfr [(119, 22), (119, 23)] g1 g2 := f2
    have keep : LR2 k B n (sk B n p) E c O g1 → g2.1 119 22 = 0 → ∀ q2, g2.1 119 21 = nn q2 → LR2 k B n q2 E c O g2 := by
      intro rr z2 q2 z3
      obtain ⟨t, _, f0, mm, hcc, h7, s⟩ := rr
      exact ⟨TpR_fr t f2 rfl (fun j => rfl), z3, z2, RM_fr mm f2 rfl rfl (fun b j h1 h2 => by unfold inW; simp; omega), by rw [(f2.1 119 27 rfl).1]; exact hcc, by rw [(f2.1 119 29 rfl).1]; exact h7, SKo_fr s f2 rfl rfl (fun j => rfl)⟩
    rw [qbd_e, qW_bv]
    unfold pNum at hz
    rw [sk_sk, cd, if_pos rfl] at hz
    by_cases c5 : nd B n (sk B n p) - sk B n p ≤ 5
    · have h9 := dv_5 (B := B) (n := n) (p := sk B n p) (k := nd B n (sk B n p) - sk B n p) (by have := nd_ge (B := B) (n := n) (p := sk B n p); omega) c5
      rw [if_pos ⟨c5, Nat.zero_le _, h9⟩] at hz
      obtain ⟨z1, z2, z3⟩ := hz
      have z1 : x = nn (dv B (sk B n p) (nd B n (sk B n p) - sk B n p)) := z1
      subst z1
      have r2 := keep r1 z2 _ z3
      have hnd := nd_le (B := B) hskn
      rw [if_pos c5]
      refine qW_mono (r_count (q := sk B n p) r2 hnd hskn hc) ?_
      intro g3 hg3
      rw [qW_bv]
      by_cases c6 : c = 60
      · rw [if_pos c6] at hg3 ⊢
        rw [r_entryF hg3.1, qW_some, qW_some]
        exact hg3.1
      · rw [if_neg c6] at hg3 ⊢
        refine qW_mono (r_entry (x := 0) hk hg3 (by omega)) ?_
        intro g4 r4
        rw [qW_some]
        exact r4
    · rw [if_neg (fun q => c5 q.1)] at hz
      rw [if_neg c5]
      have lf : LF B n (ER (sk B n p) 1) g2 := ⟨⟨TpR_fr r1.1 f2 rfl (fun j => rfl), hz.2, hz.1⟩, ER_b hskn (by omega), by rw [(f2.1 119 29 rfl).1]; exact r1.2.2.2.2.2.1⟩
      refine qW_mono (r_countF lf) ?_
      intro g3 hg3
      rw [qW_bv, r_entryF hg3.1, qW_some, qW_some]
      exact hg3.1
  | false =>
    rw [if_pos (by decide), qbd_e, if_neg (show ¬ (false = true) by decide)]
    refine r_words r1.1 r1.2.1 hskn r1.2.2.2.2.2.1 ?_ ?_
    · intro ha
      obtain ⟨a1, a2⟩ := LF_new (q := sk B n p) (x := 0) r1 hskn hskn (by omega)
      unfold f_X12_value_b63
      rw [r1.2.2.2.2.2.1, if_pos (by rfl), show (0 : Int32) = nn 0 from rfl, a1, qbv_s, qW_some, ha]
      exact a2
    · intro j hj ha hw
      have hlt := wlN_lt j hj
      have hwl := wis_L hlt hw
      unfold f_X12_value_b63
      rw [r1.2.2.2.2.2.1, if_neg (fun q => by rw [show (7 : Int32) = nn 7 from rfl, nn_eq (by omega) (by omega)] at q; omega), qW_bv, ha]
      show qW _ (fun q => qW _ (RPo k B n O (if c = 60 then .inl (ER (sk B n p) 3) else .inr (wd B n (sk B n p), E ++ [(1, j)], c + 1))))
      refine qW_mono (r_count (q := sk B n p) r1 hskn hskn hc) ?_
      intro g3 hg3
      rw [wordOf_eq j hj]
      show qW (qpr (wlN j < 19) (qbd (qw_I g3 119 21 ((g3.1 119 21) + (nI (qa_len (wlN j))))) (fun h96 : qa_M => qbv (m_X12_entry 1 (nn j) h96) (fun h102 : qa_M => some h102)))) _
      rw [qpr_t hlt, qbd_e]
      have hln := wrd_len (wlN j) hlt
      have hwd := wd_le (B := B) hskn
      by_cases c6 : c = 60
      · rw [if_pos c6] at hg3 ⊢
        rw [hg3.2, nn_ofN, nn_add, ← hln.1, ← hwl.2]
        have r4 := LF_p (g := qw_I g3 119 21 (nn (wd B n (sk B n p)))) hg3.1 (qfr_Ik rfl (by simp) qfr_rf) wI_at hwd
        rw [r_entryF r4, qbv_s, qW_some]
        exact r4
      · rw [if_neg c6] at hg3 ⊢
        rw [hg3.2.1, nn_ofN, nn_add, ← hln.1, ← hwl.2]
        have r4 := LR2_p (g := qw_I g3 119 21 (nn (wd B n (sk B n p)))) hg3 (qfr_Ik rfl (by simp) qfr_rf) wI_at
        rw [qW_bv]
        refine qW_mono (r_entry (x := 1) hk r4 (by omega)) ?_
        intro g4 r4
        rw [qW_some]
        exact r4
theorem r_valueF {B : Nat → Nat} {n f : Nat} {h : qa_M} (r : LF B n f h) : qW (m_X12_value h) (LF B n f) := by
  obtain ⟨p, hp, e⟩ := r.1.2.1
  have hskn := sk_le (B := B) hp
  have h400 := r.1.1.2.1
  unfold m_X12_value
  rw [qW_bv]
  refine qW_fr (r_blanks r.1.1 e hp) (fun z e => fr_X12_blanks _ e) ?_
  intro g1 e1 f1
  have r1 := LF_p r f1 e1 hskn
  rw [qbd_e, r_isDigit r1.1.1 e1 (by omega), qbn_s, e1]
  cases cd : isD B n (sk B n p) with
  | true =>
    rw [if_neg (by decide), qW_bn]
    refine qW_mono (r_digitsF r1 e1 hskn) ?_
    rintro ⟨x, g2⟩ r2
    rw [qbd_e, qW_bv]
    refine qW_mono (r_countF r2) ?_
    intro g3 r3
    rw [qW_bv, r_entryF r3.1, qW_some, qW_some]
    exact r3.1
  | false =>
    rw [if_pos (by decide), qbd_e]
    refine r_words r1.1.1 e1 hskn r1.2.2 ?_ ?_
    · intro ha
      unfold f_X12_value_b63
      rw [r1.2.2, if_pos (by rfl), r_failsF r1.n0, qbv_s, qW_some]
      obtain ⟨⟨t, ⟨p, hp, e⟩, e2⟩, er, h7⟩ := r1
      exact ⟨⟨TpR_fr t (qfr_Ik (L := [(119, 23)]) rfl (by simp) qfr_rf) rfl (fun j => rfl), ⟨p, hp, by rw [wI_ne (by omega)]; exact e⟩, by rw [wI_at]; exact e2⟩, er, by rw [wI_ne (by omega)]; exact h7⟩
    · intro j hj ha hw
      have hlt := wlN_lt j hj
      have hwl := wis_L hlt hw
      have hln := wrd_len (wlN j) hlt
      have hwd := wd_le (B := B) hskn
      unfold f_X12_value_b63
      rw [r1.2.2, if_neg (fun q => by rw [show (7 : Int32) = nn 7 from rfl, nn_eq (by omega) (by omega)] at q; omega), qW_bv]
      refine qW_mono (r_countF r1) ?_
      rintro g3 ⟨r3, e3⟩
      rw [wordOf_eq j hj]
      show qW (qpr (wlN j < 19) (qbd (qw_I g3 119 21 ((g3.1 119 21) + (nI (qa_len (wlN j))))) (fun h96 : qa_M => qbv (m_X12_entry 1 (nn j) h96) (fun h102 : qa_M => some h102)))) _
      rw [qpr_t hlt, qbd_e, e3, e1, nn_ofN, nn_add, ← hln.1, ← hwl.2]
      have r4 := LF_p (g := qw_I g3 119 21 (nn (wd B n (sk B n p)))) r3 (qfr_Ik rfl (by simp) qfr_rf) wI_at hwd
      rw [r_entryF r4, qbv_s, qW_some]
      exact r4
theorem r_termLF {B : Nat → Nat} {n f : Nat} {h : qa_M} (r : LF B n f h) : f_X12_term_b8_loop h = some h := by
  unfold f_X12_term_b8_loop
  refine qlp_out ?_
  show f_X12_term_b8 h = _
  unfold f_X12_term_b8
  rw [if_neg r.n0, qup_s]
theorem r_sumLF {B : Nat → Nat} {n f : Nat} {h : qa_M} (r : LF B n f h) : f_X12_sum_b4_loop h = some h := by
  unfold f_X12_sum_b4_loop
  refine qlp_out ?_
  show f_X12_sum_b4 h = _
  unfold f_X12_sum_b4
  rw [if_neg r.n0, qup_s]
theorem r_termF {B : Nat → Nat} {n f : Nat} {h : qa_M} (r : LF B n f h) : qW (m_X12_term h) (LF B n f) := by
  unfold m_X12_term
  rw [qW_bv]
  refine qW_mono (r_valueF r) ?_
  intro g1 r1
  rw [qW_bv]
  refine qW_mono (r_blkF r1) ?_
  intro g2 r2
  rw [r_termLF r2, qW_some]
  exact r2
theorem r_sumF {B : Nat → Nat} {n f : Nat} {h : qa_M} (r : LF B n f h) : qW (m_X12_sum h) (LF B n f) := by
  unfold m_X12_sum
  rw [qW_bv]
  refine qW_mono (r_termF r) ?_
  intro g1 r1
  rw [r_sumLF r1, qW_some]
  exact r1
/-! the reference's sums: the rest of the way -/
def RSq (w : Option Nat) (h : qa_M) (Q : qa_M → Prop) : Prop := match w with
  | none => qW (f_X12_term_b8_loop h) (fun h1 => qW (f_X12_sum_b4_loop h1) Q)
  | some k => qW (f_X12_term_b8_loop h) (fun h55 => qW (m_X12_entry (nn k) 0 h55) (fun h61 => qW (f_X12_sum_b4_loop h61) Q))
def RSo (w : Option Nat) (h1 : qa_M) (Q : qa_M → Prop) : Prop := match w with
  | none => qW (f_X12_sum_b4_loop h1) Q
  | some k => qW (m_X12_entry (nn k) 0 h1) (fun h61 => qW (f_X12_sum_b4_loop h61) Q)
theorem RSq_F {B : Nat → Nat} {n f : Nat} {h : qa_M} {w : Option Nat} {Q : qa_M → Prop} (r : LF B n f h) (hQ : Q h) : RSq w h Q := by
  unfold RSq
  cases w with
  | none =>
    show qW (f_X12_term_b8_loop h) _
    rw [r_termLF r, qW_some, r_sumLF r, qW_some]
    exact hQ
  | some k =>
    show qW (f_X12_term_b8_loop h) _
    rw [r_termLF r, qW_some, r_entryF r, qW_some, r_sumLF r, qW_some]
    exact hQ
/-- into the term loop -/
theorem RSq_in {w : Option Nat} {h : qa_M} {Q : qa_M → Prop} (hb : qW (f_X12_term_b8 h) (Sum.elim (fun s2 => RSq w s2 Q) (fun h1 => RSo w h1 Q))) : RSq w h Q := by
  unfold RSq at hb ⊢
  cases w with
  | none =>
    show qW (f_X12_term_b8_loop h) _
    unfold f_X12_term_b8_loop at hb ⊢
    exact qW_lpin hb
  | some k =>
    show qW (f_X12_term_b8_loop h) _
    unfold f_X12_term_b8_loop at hb ⊢
    exact qW_lpin hb
theorem sgn_sg {B : Nat → Nat} {n p c : Nat} (hB : p < n → B p < 256) (hc : c < 256) : (sgn B n p = nn c) ↔ sgI B n p c = true := by
  rw [sgn_eq hB hc]
  unfold sgI
  rw [Bool.and_eq_true, decide_eq_true_eq, decide_eq_true_eq]
theorem r_sumGo {k : Nat} {B : Nat → Nat} {n m : Nat} {T : List Bool} {O : List Nat} {Q : qa_M → Prop} (hk : k < 4) : ∀ (fu p c : Nat) (w : Option Nat) (E : Cd) (h : qa_M), n < p + fu → GI n p E c (wU w T) m → wOK w → LR2 k B n (sk B n p) E c O h → (∀ g, RPo k B n O (pSm B n fu w p E c) g → Q g) → RSq w h Q
  | 0, p, c, w, E, h, hf, g, _, _, _ => by have := g.2.2.2.2.2.1; omega
  | fu + 1, p, c, w, E, h, hf, g, hw, r, hQ => by
    have hp := g.2.2.2.2.2.1
    have h400 := g.2.2.2.2.2.2
    have hlen := g.len
    have hsk := sk_ge (B := B) (n := n) (p := p)
    have hskn := sk_le (B := B) hp
    have hB : sk B n p < n → B (sk B n p) < 256 := fun q => (r.1.2.2 _ q).1
    have f0 := r.2.2.1
    have sg := r_sign r.1 r.2.1 (by omega)
    -- one more factor
    have mul : ∀ j, (j = 13 ∨ j = 14) → sk B n p < n → (∀ g, RPo k B n O (pBd (pVal B n (sk B n p + 1) E c) (fun r => pSm B n fu w r.1 (r.2.1 ++ [(j, 0)]) r.2.2)) g → Q g) → qW (f_X12_term_b49 (nn j) h) (Sum.elim (fun s2 => RSq w s2 Q) (fun h1 => RSo w h1 Q)) := by
      intro j hj hlt hQ
      have g0 := g.up (p2 := sk B n p + 1) (by omega) (by omega)
      unfold f_X12_term_b49
      rw [qbd_e, qbd_e, r.2.1, nn_add1, qW_bv]
      have r1 := LR2_p (g := qw_I h 119 21 (nn (sk B n p + 1))) r (qfr_Ik rfl (by simp) qfr_rf) wI_at
      refine qW_mono (r_value hk g0 r1) ?_
      intro g2 hz
      rw [qW_bv]
      cases q : pVal B n (sk B n p + 1) E c with
      | inl e =>
        rw [q] at hz hQ
        have hz : LF B n e g2 := hz
        rw [r_entryF hz, qW_some, qW_bv]
        refine qW_mono (r_blkF hz) ?_
        intro g3 r3
        rw [qW_some]
        exact RSq_F r3 (hQ g3 r3)
      | inr t =>
        rw [q] at hz hQ
        have hz : LR2 k B n t.1 t.2.1 t.2.2 O g2 := hz
        obtain ⟨gt, hlt2⟩ := (pVal_ok g0 q).1
        have hl2 := gt.len
        refine qW_mono (r_entry (x := j) (v := 0) hk hz (by omega)) ?_
        intro g3 r3
        rw [qW_bv]
        refine qW_mono (r_blk r3 gt.2.2.2.2.2.1) ?_
        intro g4 r4
        rw [qW_some]
        refine r_sumGo (T := T) (m := m) hk fu t.1 t.2.2 w (t.2.1 ++ [(j, 0)]) g4 (by omega) ?_ hw r4 hQ
        exact GI.op gt (show tst (nn j) (false :: wU w T) = some (wU w T) by rcases hj with rfl | rfl <;> cases w <;> rfl) (by omega) (by omega) (by omega) (by omega)
    refine RSq_in ?_
    unfold f_X12_term_b8 f_X12_term_b33
    rw [if_pos f0, sg, qbn_s]
    unfold pSm at hQ
    by_cases c1 : sgI B n (sk B n p) 42 = true
    · rw [if_pos c1] at hQ
      have e1 : sgn B n (sk B n p) = 42 := (sgn_sg (c := 42) hB (by omega)).mpr c1
      rw [if_pos e1, sg, qbn_s, if_pos e1]
      exact mul 13 (by omega) (sgI_lt c1) hQ
    · rw [if_neg c1] at hQ
      have e1 : ¬ sgn B n (sk B n p) = 42 := fun q => c1 ((sgn_sg (c := 42) hB (by omega)).mp q)
      rw [if_neg e1, sg, qbn_s]
      by_cases c2 : sgI B n (sk B n p) 47 = true
      · rw [if_pos c2] at hQ
        have e2 : sgn B n (sk B n p) = 47 := (sgn_sg (c := 47) hB (by omega)).mpr c2
        rw [if_pos e2, sg, qbn_s, if_neg e1]
        exact mul 14 (by omega) (sgI_lt c2) hQ
      · rw [if_neg c2] at hQ
        have e2 : ¬ sgn B n (sk B n p) = 47 := fun q => c2 ((sgn_sg (c := 47) hB (by omega)).mp q)
        rw [if_neg e2, qup_s, qW_some]
        -- the term is whole: the sum goes on
        have sum4 : ∀ h2, LR2 k B n (sk B n p) (E ++ wl w) c O h2 → qW (f_X12_sum_b4_loop h2) Q := by
          intro h2 r2
          have sg2 := r_sign r2.1 r2.2.1 (by omega)
          have gw := GI.wl g hw
          -- one more term
          have add : ∀ j, (j = 2 ∨ j = 3) → sk B n p < n → (∀ g, RPo k B n O (pBd (pVal B n (sk B n p + 1) (E ++ wl w) c) (fun r => pSm B n fu (some j) r.1 r.2.1 r.2.2)) g → Q g) → qW (f_X12_sum_b43 (nn j) h2) (Sum.elim (fun s2 => qW (qlp (fun sz : qa_M => f_X12_sum_b4 sz) s2) Q) Q) := by
            intro j hj hlt hQ
            have g0 := gw.up (p2 := sk B n p + 1) (by omega) (by omega)
            unfold f_X12_sum_b43 m_X12_term
            rw [qbd_e, qbd_e, r2.2.1, nn_add1, qW_bv, qW_bv]
            have r1 := LR2_p (g := qw_I h2 119 21 (nn (sk B n p + 1))) r2 (qfr_Ik rfl (by simp) qfr_rf) wI_at
            refine qW_mono (r_value hk g0 r1) ?_
            intro g2 hz
            have fin : ∀ g3, RSq (some j) g3 Q → qW (f_X12_term_b8_loop g3) (fun q => qW (qbv (m_X12_entry (nn j) 0 q) (fun h61 : qa_M => some (Sum.inl h61))) (Sum.elim (fun s2 => qW (qlp (fun sz : qa_M => f_X12_sum_b4 sz) s2) Q) Q)) := by
              intro g3 hr
              have hr : qW (f_X12_term_b8_loop g3) (fun h55 => qW (m_X12_entry (nn j) 0 h55) (fun h61 => qW (f_X12_sum_b4_loop h61) Q)) := hr
              refine qW_mono hr ?_
              intro g4 h4
              rw [qW_bv]
              refine qW_mono h4 ?_
              intro g5 h5
              rw [qW_some]
              exact h5
            cases q : pVal B n (sk B n p + 1) (E ++ wl w) c with
            | inl e =>
              rw [q] at hz hQ
              have hz : LF B n e g2 := hz
              rw [qW_bv]
              refine qW_mono (r_blkF hz) ?_
              intro g3 r3
              exact fin g3 (RSq_F r3 (hQ g3 r3))
            | inr t =>
              rw [q] at hz hQ
              have hz : LR2 k B n t.1 t.2.1 t.2.2 O g2 := hz
              obtain ⟨gt, hlt2⟩ := (pVal_ok g0 q).1
              rw [qW_bv]
              refine qW_mono (r_blk hz gt.2.2.2.2.2.1) ?_
              intro g3 r3
              exact fin g3 (r_sumGo (T := T) (m := m) hk fu t.1 t.2.2 (some j) t.2.1 g3 (by omega) gt (fun i q => by have := Option.some.inj q; omega) r3 hQ)
          unfold f_X12_sum_b4_loop
          refine qW_lpin ?_
          show qW (f_X12_sum_b4 h2) _
          unfold f_X12_sum_b4 f_X12_sum_b29
          rw [if_pos r2.2.2.1, sg2, qbn_s]
          by_cases c3 : sgI B n (sk B n p) 43 = true
          · rw [if_pos c3] at hQ
            have e3 : sgn B n (sk B n p) = 43 := (sgn_sg (c := 43) hB (by omega)).mpr c3
            rw [if_pos e3, sg2, qbn_s, if_pos e3]
            exact add 2 (by omega) (sgI_lt c3) hQ
          · rw [if_neg c3] at hQ
            have e3 : ¬ sgn B n (sk B n p) = 43 := fun q => c3 ((sgn_sg (c := 43) hB (by omega)).mp q)
            rw [if_neg e3, sg2, qbn_s]
            by_cases c4 : sgI B n (sk B n p) 45 = true
            · rw [if_pos c4] at hQ
              have e4 : sgn B n (sk B n p) = 45 := (sgn_sg (c := 45) hB (by omega)).mpr c4
              rw [if_pos e4, sg2, qbn_s, if_neg e3]
              exact add 3 (by omega) (sgI_lt c4) hQ
            · rw [if_neg c4] at hQ
              have e4 : ¬ sgn B n (sk B n p) = 45 := fun q => c4 ((sgn_sg (c := 45) hB (by omega)).mp q)
              rw [if_neg e4, qup_s, qW_some]
              exact hQ h2 r2
        cases w with
        | none =>
          refine sum4 h ?_
          show LR2 k B n (sk B n p) (E ++ []) c O h
          rw [List.append_nil]
          exact r
        | some j =>
          show qW (m_X12_entry (nn j) 0 h) (fun h61 => qW (f_X12_sum_b4_loop h61) Q)
          exact qW_mono (r_entry (x := j) (v := 0) hk r (by omega)) (fun g2 r2 => sum4 g2 r2)
theorem r_sum {k : Nat} {B : Nat → Nat} {n p : Nat} {E : Cd} {c m : Nat} {U : List Bool} {O : List Nat} {h : qa_M} (hk : k < 4) (g : GI n p E c U m) (r : LR2 k B n p E c O h) : qW (m_X12_sum h) (RPo k B n O (pSum B n p E c)) := by
  have h400 := g.2.2.2.2.2.2
  unfold m_X12_sum m_X12_term pSum
  rw [qW_bv, qW_bv]
  refine qW_mono (r_value hk g r) ?_
  intro g2 hz
  rw [qW_bv]
  cases q : pVal B n p E c with
  | inl e =>
    rw [q] at hz
    have hz : LF B n e g2 := hz
    refine qW_mono (r_blkF hz) ?_
    intro g3 r3
    exact RSq_F (w := none) (Q := RPo k B n O (.inl e)) r3 r3
  | inr t =>
    rw [q] at hz
    have hz : LR2 k B n t.1 t.2.1 t.2.2 O g2 := hz
    obtain ⟨gt, hlt2⟩ := (pVal_ok g q).1
    refine qW_mono (r_blk hz gt.2.2.2.2.2.1) ?_
    intro g3 r3
    exact r_sumGo (T := U) (m := m) hk 400 t.1 t.2.2 none t.2.1 g3 (by omega) gt (fun i q => by cases q) r3 (fun g hg => hg)
