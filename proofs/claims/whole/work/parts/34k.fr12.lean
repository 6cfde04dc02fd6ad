/-! A LAW IS READ: the reference leaves the codes of the laws ahead (by program: gen/fr12.py) -/
def SL (k : Nat) (h : qa_M) : Prop := h.1 119 23 = nn k ∧ ∃ e, e < 2000 ∧ h.1 119 25 = nn e
def QR (k : Nat) (h g : qa_M) : Prop := SL k h → SL k g ∧ ∀ j, j < 300 * k → g.1 140 j = h.1 140 j ∧ g.1 141 j = h.1 141 j
theorem QR_rf {k : Nat} {h : qa_M} : QR k h h := fun s => ⟨s, fun _ _ => ⟨rfl, rfl⟩⟩
theorem QR_tr {k : Nat} {h g f : qa_M} (a : QR k h g) (b : QR k g f) : QR k h f := fun s => by
  obtain ⟨s1, a1⟩ := a s
  obtain ⟨s2, b1⟩ := b s1
  exact ⟨s2, fun j hj => ⟨(b1 j hj).1.trans (a1 j hj).1, (b1 j hj).2.trans (a1 j hj).2⟩⟩
theorem QR_f {k : Nat} {W : List (Nat × Nat)} {h g : qa_M} (f : qfr W h g) (w1 : inW W 119 23 = false) (w2 : inW W 119 25 = false) (w3 : ∀ j, inW W 140 j = false) (w4 : ∀ j, inW W 141 j = false) : QR k h g := fun s => by
  obtain ⟨s1, e, he, s2⟩ := s
  exact ⟨⟨(f.1 _ _ w1).1.trans s1, e, he, (f.1 _ _ w2).1.trans s2⟩, fun j _ => ⟨(f.1 _ _ (w3 j)).1, (f.1 _ _ (w4 j)).1⟩⟩
theorem QR_w {k a j : Nat} {h g : qa_M} {v : Int32} (q : g = qw_I h a j v) (ha : a = 119 ∧ j ≠ 23 ∧ j ≠ 25) : QR k h g := fun s => by
  obtain ⟨s1, e, he, s2⟩ := s
  subst q
  exact ⟨⟨by rw [wI_ne (by omega)]; exact s1, e, he, by rw [wI_ne (by omega)]; exact s2⟩, fun i _ => ⟨by rw [wI_ne (by omega)], by rw [wI_ne (by omega)]⟩⟩
theorem gr_X12_entry {k : Nat} (hk : k < 4) (x1 : Int32) (x2 : Int32) (h : qa_M) {z : qa_M} (E : m_X12_entry x1 x2 h = some z) : QR k h z := fun s => by
  obtain ⟨s1, e, he, s2⟩ := s
  unfold m_X12_entry at E
  by_cases c : h.1 119 22 = 0
  · rw [if_pos c, s1, s2, show (300 : Int32) = nn 300 from rfl, nn_mul, nn_add] at E
    obtain ⟨w, E⟩ := qck_el E
    have w := vp_in_iff.mp w
    rw [nn_toInt (by omega)] at w
    rw [qbd_e, wI_ne (by omega), wI_ne (by omega), s1, s2, nn_mul, nn_add] at E
    obtain ⟨-, E⟩ := qck_el E
    rw [qbd_e, qbd_e, nn_cl (by omega)] at E
    have E := Option.some.inj E
    rw [← E]
    refine ⟨⟨?_, e + 1, by omega, ?_⟩, fun j hj => ⟨?_, ?_⟩⟩
    · rw [wI_ne (by omega), wI_ne (by omega), wI_ne (by omega)]; exact s1
    · rw [wI_at, wI_ne (by omega), wI_ne (by omega), s2, nn_add1]
    · rw [wI_ne (by omega), wI_ne (by omega), wI_ne (by omega)]
    · rw [wI_ne (by omega), wI_ne (by omega), wI_ne (by omega)]
  · rw [if_neg c] at E
    have E := Option.some.inj E
    subst E
    exact ⟨⟨s1, e, he, s2⟩, fun _ _ => ⟨rfl, rfl⟩⟩
theorem gr_X12_value_b63 {k : Nat} (hk : k < 4) (x1 : Int32) (x2 : Int32) (h : qa_M) {z : qa_M} (E : f_X12_value_b63 x1 x2 h = some z) : QR k h ((fun z : qa_M => z) z) := by
  unfold f_X12_value_b63 at E
  have e_h : QR k h h := QR_rf
  rcases qif_el E with E | E
  · obtain ⟨h74, E0, E⟩ := qbv_el E
    have e_h74 : QR k h h74 := QR_tr e_h (QR_f (fr_X12_fails (0 : Int32) x1 h E0) rfl rfl (fun j => rfl) (fun j => rfl))
    exact qsome_f (Q := fun z => QR k h ((fun z : qa_M => z) z)) E e_h74
  · obtain ⟨h80, E0, E⟩ := qbv_el E
    have e_h80 : QR k h h80 := QR_tr e_h (QR_f (fr_X12_isCounted x1 h E0) rfl rfl (fun j => rfl) (fun j => rfl))
    obtain ⟨c89, h89, E0, E⟩ := qbn_el E
    have e_h89 : QR k h h89 := QR_tr e_h80 (QR_f (fr_X12_wordOf x2 h80 E0) rfl rfl (fun j => rfl) (fun j => rfl))
    obtain ⟨-, E⟩ := qpr_el E
    obtain ⟨h96, q_h96, E⟩ := qbd_el E
    have e_h96 : QR k h h96 := QR_tr e_h89 (QR_w q_h96 (by decide))
    obtain ⟨h102, E0, E⟩ := qbv_el E
    have e_h102 : QR k h h102 := QR_tr e_h96 (gr_X12_entry hk (1 : Int32) x2 h96 E0)
    exact qsome_f (Q := fun z => QR k h ((fun z : qa_M => z) z)) E e_h102
theorem gr_X12_value_b38 {k : Nat} (hk : k < 4) (x1 : Int32) (x2 : Int32) (h : qa_M) {z : ((Int32 × Int32 × qa_M) ⊕ qa_M)} (E : f_X12_value_b38 x1 x2 h = some z) : QR k h ((Sum.elim (fun z : Int32 × Int32 × qa_M => z.2.2) (fun z : qa_M => z)) z) := by
  unfold f_X12_value_b38 at E
  have e_h : QR k h h := QR_rf
  rcases qif_el E with E | E
  · refine qup_f (Q := fun z => QR k h ((Sum.elim (fun z : Int32 × Int32 × qa_M => z.2.2) (fun z : qa_M => z)) z)) E (fun rz E => ?_)
    exact QR_tr e_h (gr_X12_value_b63 hk x1 x2 h E)
  · obtain ⟨c48, h48, E0, E⟩ := qbn_el E
    have e_h48 : QR k h h48 := QR_tr e_h (QR_f (fr_X12_wordOf x2 h E0) rfl rfl (fun j => rfl) (fun j => rfl))
    obtain ⟨-, E⟩ := qpr_el E
    obtain ⟨c51, h51, E0, E⟩ := qbn_el E
    have e_h51 : QR k h h51 := QR_tr e_h48 (QR_f (fr_X12_stood c48 h48 E0) rfl rfl (fun j => rfl) (fun j => rfl))
    rcases qif_el E with E | E
    · obtain ⟨v57, -, E⟩ := qbd_el E
      exact qsome_f (Q := fun z => QR k h ((Sum.elim (fun z : Int32 × Int32 × qa_M => z.2.2) (fun z : qa_M => z)) z)) E e_h51
    · refine qup_f (Q := fun z => QR k h ((Sum.elim (fun z : Int32 × Int32 × qa_M => z.2.2) (fun z : qa_M => z)) z)) E (fun rz E => ?_)
      exact QR_tr e_h51 (gr_X12_value_b63 hk x1 x2 h51 E)
theorem gr_X12_value_b38_loop {k : Nat} (hk : k < 4) (x1 : Int32) (x2 : Int32) (h : qa_M) {z : qa_M} (E : f_X12_value_b38_loop x1 x2 h = some z) : QR k h ((fun z : qa_M => z) z) :=
  qlp_ind (fun sz : Int32 × Int32 × qa_M => QR k (sz.2.2) ((fun z : qa_M => z) z)) (fun sz E => gr_X12_value_b38 hk sz.1 sz.2.1 sz.2.2 E) (fun sz sz2 E ih => QR_tr (gr_X12_value_b38 hk sz.1 sz.2.1 sz.2.2 E) ih) (x1, x2, h) E
theorem gr_X12_value {k : Nat} (hk : k < 4) (h : qa_M) {z : qa_M} (E : m_X12_value h = some z) : QR k h ((fun z : qa_M => z) z) := by
  unfold m_X12_value at E
  have e_h : QR k h h := QR_rf
  obtain ⟨h1, E0, E⟩ := qbv_el E
  have e_h1 : QR k h h1 := QR_tr e_h (QR_f (fr_X12_blanks h E0) rfl rfl (fun j => rfl) (fun j => rfl))
  obtain ⟨v8, -, E⟩ := qbd_el E
  obtain ⟨c10, h10, E0, E⟩ := qbn_el E
  have e_h10 : QR k h h10 := QR_tr e_h1 (QR_f (fr_X12_isDigit h1 E0) rfl rfl (fun j => rfl) (fun j => rfl))
  rcases qif_el E with E | E
  · obtain ⟨v37, -, E⟩ := qbd_el E
    exact QR_tr e_h10 (gr_X12_value_b38_loop hk v8 v37 h10 E)
  · obtain ⟨c20, h20, E0, E⟩ := qbn_el E
    have e_h20 : QR k h h20 := QR_tr e_h10 (QR_f (fr_X12_digits (99999 : Int32) h10 E0) rfl rfl (fun j => rfl) (fun j => rfl))
    obtain ⟨v23, -, E⟩ := qbd_el E
    obtain ⟨h26, E0, E⟩ := qbv_el E
    have e_h26 : QR k h h26 := QR_tr e_h20 (QR_f (fr_X12_isCounted v8 h20 E0) rfl rfl (fun j => rfl) (fun j => rfl))
    obtain ⟨h32, E0, E⟩ := qbv_el E
    have e_h32 : QR k h h32 := QR_tr e_h26 (gr_X12_entry hk (0 : Int32) v23 h26 E0)
    exact qsome_f (Q := fun z => QR k h ((fun z : qa_M => z) z)) E e_h32
theorem gr_X12_term_b49 {k : Nat} (hk : k < 4) (s0 : Int32) (h : qa_M) {z : ((qa_M) ⊕ qa_M)} (E : f_X12_term_b49 s0 h = some z) : QR k h ((Sum.elim (fun z : qa_M => z) (fun z : qa_M => z)) z) := by
  unfold f_X12_term_b49 at E
  have e_h : QR k h h := QR_rf
  obtain ⟨v49, -, E⟩ := qbd_el E
  obtain ⟨h57, q_h57, E⟩ := qbd_el E
  have e_h57 : QR k h h57 := QR_tr e_h (QR_w q_h57 (by decide))
  obtain ⟨h61, E0, E⟩ := qbv_el E
  have e_h61 : QR k h h61 := QR_tr e_h57 (gr_X12_value hk h57 E0)
  obtain ⟨h67, E0, E⟩ := qbv_el E
  have e_h67 : QR k h h67 := QR_tr e_h61 (gr_X12_entry hk v49 (0 : Int32) h61 E0)
  obtain ⟨h71, E0, E⟩ := qbv_el E
  have e_h71 : QR k h h71 := QR_tr e_h67 (QR_f (fr_X12_blanks h67 E0) rfl rfl (fun j => rfl) (fun j => rfl))
  exact qsome_f (Q := fun z => QR k h ((Sum.elim (fun z : qa_M => z) (fun z : qa_M => z)) z)) E e_h71
theorem gr_X12_term_b33 {k : Nat} (hk : k < 4) (h : qa_M) {z : ((qa_M) ⊕ qa_M)} (E : f_X12_term_b33 h = some z) : QR k h ((Sum.elim (fun z : qa_M => z) (fun z : qa_M => z)) z) := by
  unfold f_X12_term_b33 at E
  have e_h : QR k h h := QR_rf
  obtain ⟨c34, h34, E0, E⟩ := qbn_el E
  have e_h34 : QR k h h34 := QR_tr e_h (QR_f (fr_X12_sign h E0) rfl rfl (fun j => rfl) (fun j => rfl))
  rcases qif_el E with E | E
  · exact QR_tr e_h34 (gr_X12_term_b49 hk (13 : Int32) h34 E)
  · exact QR_tr e_h34 (gr_X12_term_b49 hk (14 : Int32) h34 E)
theorem gr_X12_term_b8 {k : Nat} (hk : k < 4) (h : qa_M) {z : ((qa_M) ⊕ qa_M)} (E : f_X12_term_b8 h = some z) : QR k h ((Sum.elim (fun z : qa_M => z) (fun z : qa_M => z)) z) := by
  unfold f_X12_term_b8 at E
  have e_h : QR k h h := QR_rf
  rcases qif_el E with E | E
  · obtain ⟨c16, h16, E0, E⟩ := qbn_el E
    have e_h16 : QR k h h16 := QR_tr e_h (QR_f (fr_X12_sign h E0) rfl rfl (fun j => rfl) (fun j => rfl))
    rcases qif_el E with E | E
    · exact QR_tr e_h16 (gr_X12_term_b33 hk h16 E)
    · obtain ⟨c25, h25, E0, E⟩ := qbn_el E
      have e_h25 : QR k h h25 := QR_tr e_h16 (QR_f (fr_X12_sign h16 E0) rfl rfl (fun j => rfl) (fun j => rfl))
      rcases qif_el E with E | E
      · exact QR_tr e_h25 (gr_X12_term_b33 hk h25 E)
      · refine qup_f (Q := fun z => QR k h ((Sum.elim (fun z : qa_M => z) (fun z : qa_M => z)) z)) E (fun rz E => ?_)
        exact qsome_f (Q := fun z => QR k h ((fun z : qa_M => z) z)) E e_h25
  · refine qup_f (Q := fun z => QR k h ((Sum.elim (fun z : qa_M => z) (fun z : qa_M => z)) z)) E (fun rz E => ?_)
    exact qsome_f (Q := fun z => QR k h ((fun z : qa_M => z) z)) E e_h
theorem gr_X12_term_b8_loop {k : Nat} (hk : k < 4) (h : qa_M) {z : qa_M} (E : f_X12_term_b8_loop h = some z) : QR k h ((fun z : qa_M => z) z) :=
  qlp_ind (fun sz : qa_M => QR k (sz) ((fun z : qa_M => z) z)) (fun sz E => gr_X12_term_b8 hk sz E) (fun sz sz2 E ih => QR_tr (gr_X12_term_b8 hk sz E) ih) h E
theorem gr_X12_term {k : Nat} (hk : k < 4) (h : qa_M) {z : qa_M} (E : m_X12_term h = some z) : QR k h ((fun z : qa_M => z) z) := by
  unfold m_X12_term at E
  have e_h : QR k h h := QR_rf
  obtain ⟨h1, E0, E⟩ := qbv_el E
  have e_h1 : QR k h h1 := QR_tr e_h (gr_X12_value hk h E0)
  obtain ⟨h5, E0, E⟩ := qbv_el E
  have e_h5 : QR k h h5 := QR_tr e_h1 (QR_f (fr_X12_blanks h1 E0) rfl rfl (fun j => rfl) (fun j => rfl))
  exact QR_tr e_h5 (gr_X12_term_b8_loop hk h5 E)
theorem gr_X12_sum_b43 {k : Nat} (hk : k < 4) (s0 : Int32) (h : qa_M) {z : ((qa_M) ⊕ qa_M)} (E : f_X12_sum_b43 s0 h = some z) : QR k h ((Sum.elim (fun z : qa_M => z) (fun z : qa_M => z)) z) := by
  unfold f_X12_sum_b43 at E
  have e_h : QR k h h := QR_rf
  obtain ⟨v43, -, E⟩ := qbd_el E
  obtain ⟨h51, q_h51, E⟩ := qbd_el E
  have e_h51 : QR k h h51 := QR_tr e_h (QR_w q_h51 (by decide))
  obtain ⟨h55, E0, E⟩ := qbv_el E
  have e_h55 : QR k h h55 := QR_tr e_h51 (gr_X12_term hk h51 E0)
  obtain ⟨h61, E0, E⟩ := qbv_el E
  have e_h61 : QR k h h61 := QR_tr e_h55 (gr_X12_entry hk v43 (0 : Int32) h55 E0)
  exact qsome_f (Q := fun z => QR k h ((Sum.elim (fun z : qa_M => z) (fun z : qa_M => z)) z)) E e_h61
theorem gr_X12_sum_b29 {k : Nat} (hk : k < 4) (h : qa_M) {z : ((qa_M) ⊕ qa_M)} (E : f_X12_sum_b29 h = some z) : QR k h ((Sum.elim (fun z : qa_M => z) (fun z : qa_M => z)) z) := by
  unfold f_X12_sum_b29 at E
  have e_h : QR k h h := QR_rf
  obtain ⟨c30, h30, E0, E⟩ := qbn_el E
  have e_h30 : QR k h h30 := QR_tr e_h (QR_f (fr_X12_sign h E0) rfl rfl (fun j => rfl) (fun j => rfl))
  rcases qif_el E with E | E
  · exact QR_tr e_h30 (gr_X12_sum_b43 hk (2 : Int32) h30 E)
  · exact QR_tr e_h30 (gr_X12_sum_b43 hk (3 : Int32) h30 E)
theorem gr_X12_sum_b4 {k : Nat} (hk : k < 4) (h : qa_M) {z : ((qa_M) ⊕ qa_M)} (E : f_X12_sum_b4 h = some z) : QR k h ((Sum.elim (fun z : qa_M => z) (fun z : qa_M => z)) z) := by
  unfold f_X12_sum_b4 at E
  have e_h : QR k h h := QR_rf
  rcases qif_el E with E | E
  · obtain ⟨c12, h12, E0, E⟩ := qbn_el E
    have e_h12 : QR k h h12 := QR_tr e_h (QR_f (fr_X12_sign h E0) rfl rfl (fun j => rfl) (fun j => rfl))
    rcases qif_el E with E | E
    · exact QR_tr e_h12 (gr_X12_sum_b29 hk h12 E)
    · obtain ⟨c21, h21, E0, E⟩ := qbn_el E
      have e_h21 : QR k h h21 := QR_tr e_h12 (QR_f (fr_X12_sign h12 E0) rfl rfl (fun j => rfl) (fun j => rfl))
      rcases qif_el E with E | E
      · exact QR_tr e_h21 (gr_X12_sum_b29 hk h21 E)
      · refine qup_f (Q := fun z => QR k h ((Sum.elim (fun z : qa_M => z) (fun z : qa_M => z)) z)) E (fun rz E => ?_)
        exact qsome_f (Q := fun z => QR k h ((fun z : qa_M => z) z)) E e_h21
  · refine qup_f (Q := fun z => QR k h ((Sum.elim (fun z : qa_M => z) (fun z : qa_M => z)) z)) E (fun rz E => ?_)
    exact qsome_f (Q := fun z => QR k h ((fun z : qa_M => z) z)) E e_h
theorem gr_X12_sum_b4_loop {k : Nat} (hk : k < 4) (h : qa_M) {z : qa_M} (E : f_X12_sum_b4_loop h = some z) : QR k h ((fun z : qa_M => z) z) :=
  qlp_ind (fun sz : qa_M => QR k (sz) ((fun z : qa_M => z) z)) (fun sz E => gr_X12_sum_b4 hk sz E) (fun sz sz2 E ih => QR_tr (gr_X12_sum_b4 hk sz E) ih) h E
theorem gr_X12_sum {k : Nat} (hk : k < 4) (h : qa_M) {z : qa_M} (E : m_X12_sum h = some z) : QR k h ((fun z : qa_M => z) z) := by
  unfold m_X12_sum at E
  have e_h : QR k h h := QR_rf
  obtain ⟨h1, E0, E⟩ := qbv_el E
  have e_h1 : QR k h h1 := QR_tr e_h (gr_X12_term hk h E0)
  exact QR_tr e_h1 (gr_X12_sum_b4_loop hk h1 E)
theorem gr_X12_compared_b139 {k : Nat} (hk : k < 4) (s1 : Int32) (h : qa_M) {z : qa_M} (E : f_X12_compared_b139 s1 h = some z) : QR k h ((fun z : qa_M => z) z) := by
  unfold f_X12_compared_b139 at E
  have e_h : QR k h h := QR_rf
  obtain ⟨h140, E0, E⟩ := qbv_el E
  have e_h140 : QR k h h140 := QR_tr e_h (gr_X12_entry hk s1 (0 : Int32) h E0)
  exact qsome_f (Q := fun z => QR k h ((fun z : qa_M => z) z)) E e_h140
theorem gr_X12_compared_b90 {k : Nat} (hk : k < 4) (x1 : Int32) (x2 : Int32) (s1 : Int32) (s2 : Int32) (h : qa_M) {z : qa_M} (E : f_X12_compared_b90 x1 x2 s1 s2 h = some z) : QR k h ((fun z : qa_M => z) z) := by
  unfold f_X12_compared_b90 at E
  have e_h : QR k h h := QR_rf
  obtain ⟨h91, q_h91, E⟩ := qbd_el E
  have e_h91 : QR k h h91 := QR_tr e_h (QR_w q_h91 (by decide))
  obtain ⟨h95, E0, E⟩ := qbv_el E
  have e_h95 : QR k h h95 := QR_tr e_h91 (gr_X12_sum hk h91 E0)
  rcases qif_el E with E | E
  · exact QR_tr e_h95 (gr_X12_compared_b139 hk (6 : Int32) h95 E)
  · rcases qif_el E with E | E
    · rcases qif_el E with E | E
      · exact QR_tr e_h95 (gr_X12_compared_b139 hk (4 : Int32) h95 E)
      · exact QR_tr e_h95 (gr_X12_compared_b139 hk (5 : Int32) h95 E)
    · rcases qif_el E with E | E
      · exact QR_tr e_h95 (gr_X12_compared_b139 hk (8 : Int32) h95 E)
      · exact QR_tr e_h95 (gr_X12_compared_b139 hk (7 : Int32) h95 E)
theorem gr_X12_compared_b75 {k : Nat} (hk : k < 4) (x1 : Int32) (s0 : Int32) (h : qa_M) {z : qa_M} (E : f_X12_compared_b75 x1 s0 h = some z) : QR k h ((fun z : qa_M => z) z) := by
  unfold f_X12_compared_b75 at E
  have e_h : QR k h h := QR_rf
  obtain ⟨v75, -, E⟩ := qbd_el E
  rcases qif_el E with E | E
  · exact QR_tr e_h (gr_X12_compared_b90 hk x1 v75 (h.1 119 21) (0 : Int32) h E)
  · exact QR_tr e_h (gr_X12_compared_b90 hk x1 v75 (h.1 119 21) (1 : Int32) h E)
theorem gr_X12_compared_b74 {k : Nat} (hk : k < 4) (x1 : Int32) (h : qa_M) {z : qa_M} (E : f_X12_compared_b74 x1 h = some z) : QR k h ((fun z : qa_M => z) z) := by
  unfold f_X12_compared_b74 at E
  have e_h : QR k h h := QR_rf
  exact QR_tr e_h (gr_X12_compared_b75 hk x1 (0 : Int32) h E)
theorem gr_X12_compared_b37 {k : Nat} (hk : k < 4) (x1 : Int32) (h : qa_M) {z : qa_M} (E : f_X12_compared_b37 x1 h = some z) : QR k h ((fun z : qa_M => z) z) := by
  unfold f_X12_compared_b37 at E
  have e_h : QR k h h := QR_rf
  obtain ⟨h42, E0, E⟩ := qbv_el E
  have e_h42 : QR k h h42 := QR_tr e_h (QR_f (fr_X12_isCounted (h.1 119 21) h E0) rfl rfl (fun j => rfl) (fun j => rfl))
  obtain ⟨h52, q_h52, E⟩ := qbd_el E
  have e_h52 : QR k h h52 := QR_tr e_h42 (QR_w q_h52 (by decide))
  rcases qif_el E with E | E
  · exact QR_tr e_h52 (gr_X12_compared_b74 hk x1 h52 E)
  · obtain ⟨c62, h62, E0, E⟩ := qbn_el E
    have e_h62 : QR k h h62 := QR_tr e_h52 (QR_f (fr_X12_sign h52 E0) rfl rfl (fun j => rfl) (fun j => rfl))
    rcases qif_el E with E | E
    · exact QR_tr e_h62 (gr_X12_compared_b75 hk x1 (1 : Int32) h62 E)
    · exact QR_tr e_h62 (gr_X12_compared_b74 hk x1 h62 E)
theorem gr_X12_compared {k : Nat} (hk : k < 4) (h : qa_M) {z : qa_M} (E : m_X12_compared h = some z) : QR k h ((fun z : qa_M => z) z) := by
  unfold m_X12_compared at E
  have e_h : QR k h h := QR_rf
  obtain ⟨h1, E0, E⟩ := qbv_el E
  have e_h1 : QR k h h1 := QR_tr e_h (gr_X12_sum hk h E0)
  obtain ⟨c5, h5, E0, E⟩ := qbn_el E
  have e_h5 : QR k h h5 := QR_tr e_h1 (QR_f (fr_X12_sign h1 E0) rfl rfl (fun j => rfl) (fun j => rfl))
  obtain ⟨v8, -, E⟩ := qbd_el E
  rcases qif_el E with E | E
  · exact QR_tr e_h5 (gr_X12_compared_b37 hk v8 h5 E)
  · rcases qif_el E with E | E
    · exact QR_tr e_h5 (gr_X12_compared_b37 hk v8 h5 E)
    · rcases qif_el E with E | E
      · exact QR_tr e_h5 (gr_X12_compared_b37 hk v8 h5 E)
      · obtain ⟨h33, E0, E⟩ := qbv_el E
        have e_h33 : QR k h h33 := QR_tr e_h5 (QR_f (fr_X12_fails (0 : Int32) (h5.1 119 21) h5 E0) rfl rfl (fun j => rfl) (fun j => rfl))
        exact qsome_f (Q := fun z => QR k h ((fun z : qa_M => z) z)) E e_h33
theorem gr_X12_fact {k : Nat} (hk : k < 4) (h : qa_M) {z : (Int32 × qa_M)} (E : m_X12_fact h = some z) : QR k h ((fun z : Int32 × qa_M => z.2) z) := by
  unfold m_X12_fact at E
  have e_h : QR k h h := QR_rf
  obtain ⟨h1, E0, E⟩ := qbv_el E
  have e_h1 : QR k h h1 := QR_tr e_h (QR_f (fr_X12_blanks h E0) rfl rfl (fun j => rfl) (fun j => rfl))
  obtain ⟨c8, h8, E0, E⟩ := qbn_el E
  have e_h8 : QR k h h8 := QR_tr e_h1 (QR_f (fr_X12_stood 2 h1 E0) rfl rfl (fun j => rfl) (fun j => rfl))
  rcases qif_el E with E | E
  · obtain ⟨c33, h33, E0, E⟩ := qbn_el E
    have e_h33 : QR k h h33 := QR_tr e_h8 (QR_f (fr_X12_sign h8 E0) rfl rfl (fun j => rfl) (fun j => rfl))
    rcases qif_el E with E | E
    · obtain ⟨h44, E0, E⟩ := qbv_el E
      have e_h44 : QR k h h44 := QR_tr e_h33 (QR_f (fr_X12_opens (12 : Int32) h33 E0) rfl rfl (fun j => rfl) (fun j => rfl))
      obtain ⟨h54, q_h54, E⟩ := qbd_el E
      have e_h54 : QR k h h54 := QR_tr e_h44 (QR_w q_h54 (by decide))
      exact qsome_f (Q := fun z => QR k h ((fun z : Int32 × qa_M => z.2) z)) E e_h54
    · obtain ⟨h60, E0, E⟩ := qbv_el E
      have e_h60 : QR k h h60 := QR_tr e_h33 (gr_X12_compared hk h33 E0)
      exact qsome_f (Q := fun z => QR k h ((fun z : Int32 × qa_M => z.2) z)) E e_h60
  · obtain ⟨h17, E0, E⟩ := qbv_el E
    have e_h17 : QR k h h17 := QR_tr e_h8 (QR_f (fr_X12_opens (9 : Int32) h8 E0) rfl rfl (fun j => rfl) (fun j => rfl))
    obtain ⟨h27, q_h27, E⟩ := qbd_el E
    have e_h27 : QR k h h27 := QR_tr e_h17 (QR_w q_h27 (by decide))
    exact qsome_f (Q := fun z => QR k h ((fun z : Int32 × qa_M => z.2) z)) E e_h27
theorem gr_X12_answers_b47 {k : Nat} (hk : k < 4) (x1 : Int32) (s1 : Int32) (s2 : Int32) (h : qa_M) {z : ((Int32 × qa_M) ⊕ qa_M)} (E : f_X12_answers_b47 x1 s1 s2 h = some z) : QR k h ((Sum.elim (fun z : Int32 × qa_M => z.2) (fun z : qa_M => z)) z) := by
  unfold f_X12_answers_b47 at E
  have e_h : QR k h h := QR_rf
  obtain ⟨h48, q_h48, E⟩ := qbd_el E
  have e_h48 : QR k h h48 := QR_tr e_h (QR_w q_h48 (by decide))
  exact qsome_f (Q := fun z => QR k h ((Sum.elim (fun z : Int32 × qa_M => z.2) (fun z : qa_M => z)) z)) E e_h48
theorem gr_X12_answers_b0 {k : Nat} (hk : k < 4) (x1 : Int32) (h : qa_M) {z : ((Int32 × qa_M) ⊕ qa_M)} (E : f_X12_answers_b0 x1 h = some z) : QR k h ((Sum.elim (fun z : Int32 × qa_M => z.2) (fun z : qa_M => z)) z) := by
  unfold f_X12_answers_b0 at E
  have e_h : QR k h h := QR_rf
  obtain ⟨c1, h1, E0, E⟩ := qbn_el E
  have e_h1 : QR k h h1 := QR_tr e_h (QR_f (fr_X12_top h E0) rfl rfl (fun j => rfl) (fun j => rfl))
  rcases qif_el E with E | E
  · rcases qif_el E with E | E
    · obtain ⟨h18, E0, E⟩ := qbv_el E
      have e_h18 : QR k h h18 := QR_tr e_h1 (gr_X12_entry hk x1 (0 : Int32) h1 E0)
      obtain ⟨h28, q_h28, E⟩ := qbd_el E
      have e_h28 : QR k h h28 := QR_tr e_h18 (QR_w q_h28 (by decide))
      rcases qif_el E with E | E
      · exact QR_tr e_h28 (gr_X12_answers_b47 hk x1 (h28.1 119 26) (1 : Int32) h28 E)
      · exact QR_tr e_h28 (gr_X12_answers_b47 hk x1 (h28.1 119 26) (0 : Int32) h28 E)
    · refine qup_f (Q := fun z => QR k h ((Sum.elim (fun z : Int32 × qa_M => z.2) (fun z : qa_M => z)) z)) E (fun rz E => ?_)
      exact qsome_f (Q := fun z => QR k h ((fun z : qa_M => z) z)) E e_h1
  · refine qup_f (Q := fun z => QR k h ((Sum.elim (fun z : Int32 × qa_M => z.2) (fun z : qa_M => z)) z)) E (fun rz E => ?_)
    exact qsome_f (Q := fun z => QR k h ((fun z : qa_M => z) z)) E e_h1
theorem gr_X12_answers_b0_loop {k : Nat} (hk : k < 4) (x1 : Int32) (h : qa_M) {z : qa_M} (E : f_X12_answers_b0_loop x1 h = some z) : QR k h ((fun z : qa_M => z) z) :=
  qlp_ind (fun sz : Int32 × qa_M => QR k (sz.2) ((fun z : qa_M => z) z)) (fun sz E => gr_X12_answers_b0 hk sz.1 sz.2 E) (fun sz sz2 E ih => QR_tr (gr_X12_answers_b0 hk sz.1 sz.2 E) ih) (x1, h) E
theorem gr_X12_answers {k : Nat} (hk : k < 4) (x1 : Int32) (h : qa_M) {z : qa_M} (E : m_X12_answers x1 h = some z) : QR k h ((fun z : qa_M => z) z) := by
  unfold m_X12_answers at E
  have e_h : QR k h h := QR_rf
  exact QR_tr e_h (gr_X12_answers_b0_loop hk x1 h E)
theorem gr_X12_test_b199 {k : Nat} (hk : k < 4) (x1 : Int32) (x2 : Int32) (h : qa_M) {z : ((Int32 × Int32 × qa_M) ⊕ qa_M)} (E : f_X12_test_b199 x1 x2 h = some z) : QR k h ((Sum.elim (fun z : Int32 × Int32 × qa_M => z.2.2) (fun z : qa_M => z)) z) := by
  unfold f_X12_test_b199 at E
  have e_h : QR k h h := QR_rf
  exact qsome_f (Q := fun z => QR k h ((Sum.elim (fun z : Int32 × Int32 × qa_M => z.2.2) (fun z : qa_M => z)) z)) E e_h
theorem gr_X12_test_b122 {k : Nat} (hk : k < 4) (x2 : Int32) (s1 : Int32) (s2 : Int32) (h : qa_M) {z : ((Int32 × Int32 × qa_M) ⊕ qa_M)} (E : f_X12_test_b122 x2 s1 s2 h = some z) : QR k h ((Sum.elim (fun z : Int32 × Int32 × qa_M => z.2.2) (fun z : qa_M => z)) z) := by
  unfold f_X12_test_b122 at E
  have e_h : QR k h h := QR_rf
  obtain ⟨h123, q_h123, E⟩ := qbd_el E
  have e_h123 : QR k h h123 := QR_tr e_h (QR_w q_h123 (by decide))
  obtain ⟨v127, -, E⟩ := qbd_el E
  exact QR_tr e_h123 (gr_X12_test_b199 hk v127 x2 h123 E)
theorem gr_X12_test_b105 {k : Nat} (hk : k < 4) (x2 : Int32) (x3 : Int32) (s1 : Int32) (h : qa_M) {z : ((Int32 × Int32 × qa_M) ⊕ qa_M)} (E : f_X12_test_b105 x2 x3 s1 h = some z) : QR k h ((Sum.elim (fun z : Int32 × Int32 × qa_M => z.2.2) (fun z : qa_M => z)) z) := by
  unfold f_X12_test_b105 at E
  have e_h : QR k h h := QR_rf
  obtain ⟨h105, E0, E⟩ := qbv_el E
  have e_h105 : QR k h h105 := QR_tr e_h (QR_f (fr_X12_opens s1 h E0) rfl rfl (fun j => rfl) (fun j => rfl))
  rcases qif_el E with E | E
  · exact QR_tr e_h105 (gr_X12_test_b122 hk x2 (h105.1 119 21) (2 : Int32) h105 E)
  · exact QR_tr e_h105 (gr_X12_test_b122 hk x2 (h105.1 119 21) (3 : Int32) h105 E)
theorem gr_X12_test_b93 {k : Nat} (hk : k < 4) (x2 : Int32) (x3 : Int32) (h : qa_M) {z : ((Int32 × Int32 × qa_M) ⊕ qa_M)} (E : f_X12_test_b93 x2 x3 h = some z) : QR k h ((Sum.elim (fun z : Int32 × Int32 × qa_M => z.2.2) (fun z : qa_M => z)) z) := by
  unfold f_X12_test_b93 at E
  have e_h : QR k h h := QR_rf
  rcases qif_el E with E | E
  · exact QR_tr e_h (gr_X12_test_b105 hk x2 x3 (11 : Int32) h E)
  · exact QR_tr e_h (gr_X12_test_b105 hk x2 x3 (10 : Int32) h E)
theorem gr_X12_test_b82 {k : Nat} (hk : k < 4) (x2 : Int32) (x3 : Int32) (x4 : Int32) (h : qa_M) {z : ((Int32 × Int32 × qa_M) ⊕ qa_M)} (E : f_X12_test_b82 x2 x3 x4 h = some z) : QR k h ((Sum.elim (fun z : Int32 × Int32 × qa_M => z.2.2) (fun z : qa_M => z)) z) := by
  unfold f_X12_test_b82 at E
  have e_h : QR k h h := QR_rf
  rcases qif_el E with E | E
  · exact QR_tr e_h (gr_X12_test_b93 hk x2 x3 h E)
  · obtain ⟨h90, E0, E⟩ := qbv_el E
    have e_h90 : QR k h h90 := QR_tr e_h (gr_X12_answers hk (11 : Int32) h E0)
    exact QR_tr e_h90 (gr_X12_test_b93 hk x2 x3 h90 E)
theorem gr_X12_test_b164 {k : Nat} (hk : k < 4) (x1 : Int32) (x2 : Int32) (h : qa_M) {z : ((Int32 × Int32 × qa_M) ⊕ qa_M)} (E : f_X12_test_b164 x1 x2 h = some z) : QR k h ((Sum.elim (fun z : Int32 × Int32 × qa_M => z.2.2) (fun z : qa_M => z)) z) := by
  unfold f_X12_test_b164 at E
  have e_h : QR k h h := QR_rf
  obtain ⟨h171, q_h171, E⟩ := qbd_el E
  have e_h171 : QR k h h171 := QR_tr e_h (QR_w q_h171 (by decide))
  obtain ⟨h181, q_h181, E⟩ := qbd_el E
  have e_h181 : QR k h h181 := QR_tr e_h171 (QR_w q_h181 (by decide))
  obtain ⟨h191, q_h191, E⟩ := qbd_el E
  have e_h191 : QR k h h191 := QR_tr e_h181 (QR_w q_h191 (by decide))
  exact QR_tr e_h191 (gr_X12_test_b199 hk x1 x2 h191 E)
theorem gr_X12_test_b36 {k : Nat} (hk : k < 4) (x2 : Int32) (s0 : Int32) (h : qa_M) {z : ((Int32 × Int32 × qa_M) ⊕ qa_M)} (E : f_X12_test_b36 x2 s0 h = some z) : QR k h ((Sum.elim (fun z : Int32 × Int32 × qa_M => z.2.2) (fun z : qa_M => z)) z) := by
  unfold f_X12_test_b36 at E
  have e_h : QR k h h := QR_rf
  obtain ⟨v36, -, E⟩ := qbd_el E
  exact qsome_f (Q := fun z => QR k h ((Sum.elim (fun z : Int32 × Int32 × qa_M => z.2.2) (fun z : qa_M => z)) z)) E e_h
theorem gr_X12_test_b9 {k : Nat} (hk : k < 4) (x1 : Int32) (x2 : Int32) (h : qa_M) {z : ((Int32 × Int32 × qa_M) ⊕ qa_M)} (E : f_X12_test_b9 x1 x2 h = some z) : QR k h ((Sum.elim (fun z : Int32 × Int32 × qa_M => z.2.2) (fun z : qa_M => z)) z) := by
  unfold f_X12_test_b9 at E
  have e_h : QR k h h := QR_rf
  rcases qif_el E with E | E
  · refine qup_f (Q := fun z => QR k h ((Sum.elim (fun z : Int32 × Int32 × qa_M => z.2.2) (fun z : qa_M => z)) z)) E (fun rz E => ?_)
    exact qsome_f (Q := fun z => QR k h ((fun z : qa_M => z) z)) E e_h
  · rcases qif_el E with E | E
    · rcases qif_el E with E | E
      · obtain ⟨h43, E0, E⟩ := qbv_el E
        have e_h43 : QR k h h43 := QR_tr e_h (gr_X12_answers hk (9 : Int32) h E0)
        obtain ⟨h47, E0, E⟩ := qbv_el E
        have e_h47 : QR k h h47 := QR_tr e_h43 (QR_f (fr_X12_blanks h43 E0) rfl rfl (fun j => rfl) (fun j => rfl))
        obtain ⟨c54, h54, E0, E⟩ := qbn_el E
        have e_h54 : QR k h h54 := QR_tr e_h47 (QR_f (fr_X12_stood 17 h47 E0) rfl rfl (fun j => rfl) (fun j => rfl))
        obtain ⟨v57, -, E⟩ := qbd_el E
        obtain ⟨c62, h62, E0, E⟩ := qbn_el E
        have e_h62 : QR k h h62 := QR_tr e_h54 (QR_f (fr_X12_stood 18 h54 E0) rfl rfl (fun j => rfl) (fun j => rfl))
        obtain ⟨v65, -, E⟩ := qbd_el E
        obtain ⟨h70, E0, E⟩ := qbv_el E
        have e_h70 : QR k h h70 := QR_tr e_h62 (gr_X12_answers hk (10 : Int32) h62 E0)
        rcases qif_el E with E | E
        · rcases qif_el E with E | E
          · obtain ⟨h134, E0, E⟩ := qbv_el E
            have e_h134 : QR k h h134 := QR_tr e_h70 (gr_X12_answers hk (11 : Int32) h70 E0)
            obtain ⟨c138, h138, E0, E⟩ := qbn_el E
            have e_h138 : QR k h h138 := QR_tr e_h134 (QR_f (fr_X12_top h134 E0) rfl rfl (fun j => rfl) (fun j => rfl))
            rcases qif_el E with E | E
            · obtain ⟨c147, h147, E0, E⟩ := qbn_el E
              have e_h147 : QR k h h147 := QR_tr e_h138 (QR_f (fr_X12_sign h138 E0) rfl rfl (fun j => rfl) (fun j => rfl))
              rcases qif_el E with E | E
              · exact QR_tr e_h147 (gr_X12_test_b164 hk x1 x2 h147 E)
              · obtain ⟨h161, E0, E⟩ := qbv_el E
                have e_h161 : QR k h h161 := QR_tr e_h147 (QR_f (fr_X12_fails (0 : Int32) (h147.1 119 21) h147 E0) rfl rfl (fun j => rfl) (fun j => rfl))
                exact QR_tr e_h161 (gr_X12_test_b164 hk x1 x2 h161 E)
            · obtain ⟨v198, -, E⟩ := qbd_el E
              exact QR_tr e_h138 (gr_X12_test_b199 hk x1 v198 h138 E)
          · exact QR_tr e_h70 (gr_X12_test_b82 hk x2 v57 v65 h70 E)
        · exact QR_tr e_h70 (gr_X12_test_b82 hk x2 v57 v65 h70 E)
      · obtain ⟨c25, h25, E0, E⟩ := qbn_el E
        have e_h25 : QR k h h25 := QR_tr e_h (gr_X12_fact hk h E0)
        rcases qif_el E with E | E
        · exact QR_tr e_h25 (gr_X12_test_b36 hk x2 (1 : Int32) h25 E)
        · exact QR_tr e_h25 (gr_X12_test_b36 hk x2 (0 : Int32) h25 E)
    · refine qup_f (Q := fun z => QR k h ((Sum.elim (fun z : Int32 × Int32 × qa_M => z.2.2) (fun z : qa_M => z)) z)) E (fun rz E => ?_)
      exact qsome_f (Q := fun z => QR k h ((fun z : qa_M => z) z)) E e_h
theorem gr_X12_test_b9_loop {k : Nat} (hk : k < 4) (x1 : Int32) (x2 : Int32) (h : qa_M) {z : qa_M} (E : f_X12_test_b9_loop x1 x2 h = some z) : QR k h ((fun z : qa_M => z) z) :=
  qlp_ind (fun sz : Int32 × Int32 × qa_M => QR k (sz.2.2) ((fun z : qa_M => z) z)) (fun sz E => gr_X12_test_b9 hk sz.1 sz.2.1 sz.2.2 E) (fun sz sz2 E ih => QR_tr (gr_X12_test_b9 hk sz.1 sz.2.1 sz.2.2 E) ih) (x1, x2, h) E
theorem gr_X12_test {k : Nat} (hk : k < 4) (h : qa_M) {z : qa_M} (E : m_X12_test h = some z) : QR k h ((fun z : qa_M => z) z) := by
  unfold m_X12_test at E
  have e_h : QR k h h := QR_rf
  obtain ⟨h2, q_h2, E⟩ := qbd_el E
  have e_h2 : QR k h h2 := QR_tr e_h (QR_w q_h2 (by decide))
  obtain ⟨v6, -, E⟩ := qbd_el E
  obtain ⟨v8, -, E⟩ := qbd_el E
  exact QR_tr e_h2 (gr_X12_test_b9_loop hk v6 v8 h2 E)
