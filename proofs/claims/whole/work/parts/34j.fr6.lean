/-! A LAW IS READ: which cells the reader of tests writes, the law known (by program: gen/fr6.py) -/
def wTs (a : Nat) : List (Nat × Nat) := [(1, 3), (1, 4), (1, 5), (1, 6), (1, 7), (1, 8), (21, 3), (21, 4), (a, 9), (a + 6, 0)]
theorem wTs_r {a : Nat} {h g : qa_M} (hA : qLaw a) (e : qfr (wTs a) h g) (r : h.2.2.1 21 1 = a + 1) : g.2.2.1 21 1 = a + 1 := by
  have h83 := qLaw_g hA
  have : inW (wTs a) 21 1 = false := by unfold wTs inW; simp; omega
  exact (e.1 21 1 this).2.2.trans r
theorem gr_X6_readValue_b90 {a : Nat} (hA : qLaw a) (_ : Nat) (s1 : Int32) (h : qa_M) (r_h : h.2.2.1 21 1 = a + 1) {z : (Int32 × qa_M)} (E : f_X6_readValue_b90 a s1 h = some z) : qfr (wTs a) h ((fun z : Int32 × qa_M => z.2) z) := by
  unfold f_X6_readValue_b90 at E
  have e_h : qfr (wTs a) h h := qfr_rf
  obtain ⟨-, E⟩ := qpr_el E
  obtain ⟨h90, E0, E⟩ := qbv_el E
  have e_h90 : qfr (wTs a) h h90 := qfr_tr e_h (qfr_sub (qsub_c (by simp [wTs]) (qsub_c (by simp [wTs]) qsub_nil)) (fr_X5_emit a s1 h E0))
  have r_h90 := wTs_r hA e_h90 r_h
  obtain ⟨h97, E0, E⟩ := qbv_el E
  have e_h97 : qfr (wTs a) h h97 := qfr_tr e_h90 (qfr_sub (qsub_c (by simp [wTs]) (qsub_c (by simp [wTs]) (qsub_c (by simp [wTs]) (qsub_c (by simp [wTs]) qsub_nil)))) (fr_X9_scan h90 E0))
  have r_h97 := wTs_r hA e_h97 r_h
  exact qsome_f (Q := fun z => qfr (wTs a) h ((fun z : Int32 × qa_M => z.2) z)) E e_h97
theorem gr_X6_readValue_b59 {a : Nat} (hA : qLaw a) (x1 : Int32) (h : qa_M) (r_h : h.2.2.1 21 1 = a + 1) {z : (Int32 × qa_M)} (E : f_X6_readValue_b59 x1 h = some z) : qfr (wTs a) h ((fun z : Int32 × qa_M => z.2) z) := by
  unfold f_X6_readValue_b59 at E
  have e_h : qfr (wTs a) h h := qfr_rf
  obtain ⟨c60, h60, E0, E⟩ := qbn_el E
  have e_h60 : qfr (wTs a) h h60 := qfr_tr e_h (qfr_sub (qsub_c (by simp [wTs]) (qsub_c (by simp [wTs]) qsub_nil)) (fr_X6_isRoomForPart h E0))
  have r_h60 := wTs_r hA e_h60 r_h
  rcases qif_el E with E | E
  · exact qsome_f (Q := fun z => qfr (wTs a) h ((fun z : Int32 × qa_M => z.2) z)) E e_h60
  · rw [r_h60, qnn_s] at E
    obtain ⟨-, E⟩ := qpr_el E
    rcases qif_el E with E | E
    · exact qfr_tr e_h60 (gr_X6_readValue_b90 hA a (h60.1 1 5) h60 r_h60 E)
    · exact qfr_tr e_h60 (gr_X6_readValue_b90 hA a ((-1 : Int32) - x1) h60 r_h60 E)
theorem gr_X6_readValue_b35 {a : Nat} (hA : qLaw a) (x1 : Int32) (h : qa_M) (r_h : h.2.2.1 21 1 = a + 1) {z : (Int32 × qa_M)} (E : f_X6_readValue_b35 x1 h = some z) : qfr (wTs a) h ((fun z : Int32 × qa_M => z.2) z) := by
  unfold f_X6_readValue_b35 at E
  have e_h : qfr (wTs a) h h := qfr_rf
  rcases qif_el E with E | E
  · rcases qif_el E with E | E
    · exact qfr_tr e_h (gr_X6_readValue_b59 hA x1 h r_h E)
    · obtain ⟨c55, h55, E0, E⟩ := qbn_el E
      have e_h55 : qfr (wTs a) h h55 := qfr_tr e_h (qfr_sub (qsub_c (by simp [wTs]) qsub_nil) (fr_X9_fail (1 : Int32) h E0))
      have r_h55 := wTs_r hA e_h55 r_h
      obtain ⟨-, E⟩ := qpr_el E
      exact qsome_f (Q := fun z => qfr (wTs a) h ((fun z : Int32 × qa_M => z.2) z)) E e_h55
  · exact qfr_tr e_h (gr_X6_readValue_b59 hA x1 h r_h E)
theorem gr_X6_readValue {a : Nat} (hA : qLaw a) (h : qa_M) (r_h : h.2.2.1 21 1 = a + 1) {z : (Int32 × qa_M)} (E : m_X6_readValue h = some z) : qfr (wTs a) h ((fun z : Int32 × qa_M => z.2) z) := by
  unfold m_X6_readValue at E
  have e_h : qfr (wTs a) h h := qfr_rf
  obtain ⟨c6, h6, E0, E⟩ := qbn_el E
  have e_h6 : qfr (wTs a) h h6 := qfr_tr e_h (qfr_sub qsub_nil (fr_X9_among 3 h E0))
  have r_h6 := wTs_r hA e_h6 r_h
  obtain ⟨v9, -, E⟩ := qbd_el E
  rcases qif_el E with E | E
  · exact qfr_tr e_h6 (gr_X6_readValue_b35 hA v9 h6 r_h6 E)
  · rcases qif_el E with E | E
    · obtain ⟨c31, h31, E0, E⟩ := qbn_el E
      have e_h31 : qfr (wTs a) h h31 := qfr_tr e_h6 (qfr_sub (qsub_c (by simp [wTs]) qsub_nil) (fr_X9_fail (0 : Int32) h6 E0))
      have r_h31 := wTs_r hA e_h31 r_h
      obtain ⟨-, E⟩ := qpr_el E
      exact qsome_f (Q := fun z => qfr (wTs a) h ((fun z : Int32 × qa_M => z.2) z)) E e_h31
    · exact qfr_tr e_h6 (gr_X6_readValue_b35 hA v9 h6 r_h6 E)
theorem gr_X6_readSum_b110 {a : Nat} (hA : qLaw a) (x1 : Int32) (h : qa_M) (r_h : h.2.2.1 21 1 = a + 1) {z : (Int32 × qa_M)} (E : f_X6_readSum_b110 x1 h = some z) : qfr (wTs a) h ((fun z : Int32 × qa_M => z.2) z) := by
  unfold f_X6_readSum_b110 at E
  have e_h : qfr (wTs a) h h := qfr_rf
  rcases qif_el E with E | E
  · exact qsome_f (Q := fun z => qfr (wTs a) h ((fun z : Int32 × qa_M => z.2) z)) E e_h
  · rw [r_h, qnn_s] at E
    obtain ⟨-, E⟩ := qpr_el E
    obtain ⟨h119, E0, E⟩ := qbv_el E
    have e_h119 : qfr (wTs a) h h119 := qfr_tr e_h (qfr_sub (qsub_c (by simp [wTs]) (qsub_c (by simp [wTs]) qsub_nil)) (fr_X5_emit a x1 h E0))
    have r_h119 := wTs_r hA e_h119 r_h
    exact qsome_f (Q := fun z => qfr (wTs a) h ((fun z : Int32 × qa_M => z.2) z)) E e_h119
theorem gr_X6_readSum_b104 {a : Nat} (hA : qLaw a) (x1 : Int32) (x2 : Int32) (h : qa_M) (r_h : h.2.2.1 21 1 = a + 1) {z : ((Int32 × Int32 × qa_M) ⊕ (Int32 × qa_M))} (E : f_X6_readSum_b104 x1 x2 h = some z) : qfr (wTs a) h ((Sum.elim (fun z : Int32 × Int32 × qa_M => z.2.2) (fun z : Int32 × qa_M => z.2)) z) := by
  unfold f_X6_readSum_b104 at E
  have e_h : qfr (wTs a) h h := qfr_rf
  obtain ⟨v104, -, E⟩ := qbd_el E
  exact qsome_f (Q := fun z => qfr (wTs a) h ((Sum.elim (fun z : Int32 × Int32 × qa_M => z.2.2) (fun z : Int32 × qa_M => z.2)) z)) E e_h
theorem gr_X6_readSum_b70 {a : Nat} (hA : qLaw a) (x1 : Int32) (x2 : Int32) (x3 : Int32) (x4 : Int32) (h : qa_M) (r_h : h.2.2.1 21 1 = a + 1) {z : ((Int32 × Int32 × qa_M) ⊕ (Int32 × qa_M))} (E : f_X6_readSum_b70 x1 x2 x3 x4 h = some z) : qfr (wTs a) h ((Sum.elim (fun z : Int32 × Int32 × qa_M => z.2.2) (fun z : Int32 × qa_M => z.2)) z) := by
  unfold f_X6_readSum_b70 at E
  have e_h : qfr (wTs a) h h := qfr_rf
  obtain ⟨h74, E0, E⟩ := qbv_el E
  have e_h74 : qfr (wTs a) h h74 := qfr_tr e_h (qfr_sub (qsub_c (by simp [wTs]) (qsub_c (by simp [wTs]) (qsub_c (by simp [wTs]) (qsub_c (by simp [wTs]) qsub_nil)))) (fr_X9_scan h E0))
  have r_h74 := wTs_r hA e_h74 r_h
  obtain ⟨c78, h78, E0, E⟩ := qbn_el E
  have e_h78 : qfr (wTs a) h h78 := qfr_tr e_h74 (gr_X6_readValue hA h74 r_h74 E0)
  have r_h78 := wTs_r hA e_h78 r_h
  rcases qif_el E with E | E
  · refine qup_f (Q := fun z => qfr (wTs a) h ((Sum.elim (fun z : Int32 × Int32 × qa_M => z.2.2) (fun z : Int32 × qa_M => z.2)) z)) E (fun rz E => ?_)
    exact qsome_f (Q := fun z => qfr (wTs a) h ((fun z : Int32 × qa_M => z.2) z)) E e_h78
  · rcases qif_el E with E | E
    · rw [r_h78, qnn_s] at E
      obtain ⟨-, E⟩ := qpr_el E
      obtain ⟨h101, E0, E⟩ := qbv_el E
      have e_h101 : qfr (wTs a) h h101 := qfr_tr e_h78 (qfr_sub (qsub_c (by simp [wTs]) (qsub_c (by simp [wTs]) qsub_nil)) (fr_X5_emit a x3 h78 E0))
      have r_h101 := wTs_r hA e_h101 r_h
      exact qfr_tr e_h101 (gr_X6_readSum_b104 hA x1 x2 h101 r_h101 E)
    · obtain ⟨v92, -, E⟩ := qbd_el E
      exact qfr_tr e_h78 (gr_X6_readSum_b104 hA v92 x2 h78 r_h78 E)
theorem gr_X6_readSum_b51 {a : Nat} (hA : qLaw a) (x1 : Int32) (x2 : Int32) (x3 : Int32) (s0 : Int32) (h : qa_M) (r_h : h.2.2.1 21 1 = a + 1) {z : ((Int32 × Int32 × qa_M) ⊕ (Int32 × qa_M))} (E : f_X6_readSum_b51 x1 x2 x3 s0 h = some z) : qfr (wTs a) h ((Sum.elim (fun z : Int32 × Int32 × qa_M => z.2.2) (fun z : Int32 × qa_M => z.2)) z) := by
  unfold f_X6_readSum_b51 at E
  have e_h : qfr (wTs a) h h := qfr_rf
  obtain ⟨v51, -, E⟩ := qbd_el E
  rcases qif_el E with E | E
  · exact qfr_tr e_h (gr_X6_readSum_b70 hA x1 x2 x3 v51 h r_h E)
  · rcases qif_el E with E | E
    · exact qfr_tr e_h (gr_X6_readSum_b70 hA x1 x2 x3 v51 h r_h E)
    · rw [r_h, qnn_s] at E
      obtain ⟨-, E⟩ := qpr_el E
      obtain ⟨h67, E0, E⟩ := qbv_el E
      have e_h67 : qfr (wTs a) h h67 := qfr_tr e_h (qfr_sub (qsub_c (by simp [wTs]) (qsub_c (by simp [wTs]) qsub_nil)) (fr_X5_emit a x1 h E0))
      have r_h67 := wTs_r hA e_h67 r_h
      exact qfr_tr e_h67 (gr_X6_readSum_b70 hA x1 x2 x3 v51 h67 r_h67 E)
theorem gr_X6_readSum_b37 {a : Nat} (hA : qLaw a) (x1 : Int32) (h : qa_M) (r_h : h.2.2.1 21 1 = a + 1) {z : (Int32 × qa_M)} (E : f_X6_readSum_b37 x1 h = some z) : qfr (wTs a) h ((fun z : Int32 × qa_M => z.2) z) := by
  unfold f_X6_readSum_b37 at E
  have e_h : qfr (wTs a) h h := qfr_rf
  exact qfr_tr e_h (gr_X6_readSum_b110 hA x1 h r_h E)
theorem gr_X6_readSum_b13 {a : Nat} (hA : qLaw a) (x1 : Int32) (x2 : Int32) (h : qa_M) (r_h : h.2.2.1 21 1 = a + 1) {z : ((Int32 × Int32 × qa_M) ⊕ (Int32 × qa_M))} (E : f_X6_readSum_b13 x1 x2 h = some z) : qfr (wTs a) h ((Sum.elim (fun z : Int32 × Int32 × qa_M => z.2.2) (fun z : Int32 × qa_M => z.2)) z) := by
  unfold f_X6_readSum_b13 at E
  have e_h : qfr (wTs a) h h := qfr_rf
  rcases qif_el E with E | E
  · refine qup_f (Q := fun z => qfr (wTs a) h ((Sum.elim (fun z : Int32 × Int32 × qa_M => z.2.2) (fun z : Int32 × qa_M => z.2)) z)) E (fun rz E => ?_)
    exact qfr_tr e_h (gr_X6_readSum_b110 hA x1 h r_h E)
  · obtain ⟨c21, h21, E0, E⟩ := qbn_el E
    have e_h21 : qfr (wTs a) h h21 := qfr_tr e_h (qfr_sub qsub_nil (fr_X6_signCode h E0))
    have r_h21 := wTs_r hA e_h21 r_h
    obtain ⟨v24, -, E⟩ := qbd_el E
    rcases qif_el E with E | E
    · refine qup_f (Q := fun z => qfr (wTs a) h ((Sum.elim (fun z : Int32 × Int32 × qa_M => z.2.2) (fun z : Int32 × qa_M => z.2)) z)) E (fun rz E => ?_)
      exact qfr_tr e_h21 (gr_X6_readSum_b110 hA x1 h21 r_h21 E)
    · rcases qif_el E with E | E
      · rcases qif_el E with E | E
        · exact qfr_tr e_h21 (gr_X6_readSum_b51 hA x1 x2 v24 (0 : Int32) h21 r_h21 E)
        · exact qfr_tr e_h21 (gr_X6_readSum_b51 hA x1 x2 v24 (1 : Int32) h21 r_h21 E)
      · refine qup_f (Q := fun z => qfr (wTs a) h ((Sum.elim (fun z : Int32 × Int32 × qa_M => z.2.2) (fun z : Int32 × qa_M => z.2)) z)) E (fun rz E => ?_)
        exact qfr_tr e_h21 (gr_X6_readSum_b37 hA x1 h21 r_h21 E)
theorem gr_X6_readSum_b13_loop {a : Nat} (hA : qLaw a) (x1 : Int32) (x2 : Int32) (h : qa_M) (r_h : h.2.2.1 21 1 = a + 1) {z : (Int32 × qa_M)} (E : f_X6_readSum_b13_loop x1 x2 h = some z) : qfr (wTs a) h ((fun z : Int32 × qa_M => z.2) z) :=
  qlp_ind (fun sz : Int32 × Int32 × qa_M => (sz.2.2).2.2.1 21 1 = a + 1 → qfr (wTs a) (sz.2.2) ((fun z : Int32 × qa_M => z.2) z)) (fun sz E r => gr_X6_readSum_b13 hA sz.1 sz.2.1 sz.2.2 r E) (fun sz sz2 E ih r => qfr_tr (gr_X6_readSum_b13 hA sz.1 sz.2.1 sz.2.2 r E) (ih (wTs_r hA (gr_X6_readSum_b13 hA sz.1 sz.2.1 sz.2.2 r E) r))) (x1, x2, h) E r_h
theorem gr_X6_readSum {a : Nat} (hA : qLaw a) (h : qa_M) (r_h : h.2.2.1 21 1 = a + 1) {z : (Int32 × qa_M)} (E : m_X6_readSum h = some z) : qfr (wTs a) h ((fun z : Int32 × qa_M => z.2) z) := by
  unfold m_X6_readSum at E
  have e_h : qfr (wTs a) h h := qfr_rf
  obtain ⟨v1, -, E⟩ := qbd_el E
  obtain ⟨c3, h3, E0, E⟩ := qbn_el E
  have e_h3 : qfr (wTs a) h h3 := qfr_tr e_h (gr_X6_readValue hA h r_h E0)
  have r_h3 := wTs_r hA e_h3 r_h
  rcases qif_el E with E | E
  · exact qsome_f (Q := fun z => qfr (wTs a) h ((fun z : Int32 × qa_M => z.2) z)) E e_h3
  · obtain ⟨v12, -, E⟩ := qbd_el E
    exact qfr_tr e_h3 (gr_X6_readSum_b13_loop hA v1 v12 h3 r_h3 E)
theorem gr_X6_readComparison_b17 {a : Nat} (hA : qLaw a) (h : qa_M) (r_h : h.2.2.1 21 1 = a + 1) {z : (Int32 × qa_M)} (E : f_X6_readComparison_b17 h = some z) : qfr (wTs a) h ((fun z : Int32 × qa_M => z.2) z) := by
  unfold f_X6_readComparison_b17 at E
  have e_h : qfr (wTs a) h h := qfr_rf
  obtain ⟨c22, h22, E0, E⟩ := qbn_el E
  have e_h22 : qfr (wTs a) h h22 := qfr_tr e_h (qfr_sub (qsub_c (by simp [wTs]) qsub_nil) (fr_X9_fail (0 : Int32) h E0))
  have r_h22 := wTs_r hA e_h22 r_h
  obtain ⟨-, E⟩ := qpr_el E
  exact qsome_f (Q := fun z => qfr (wTs a) h ((fun z : Int32 × qa_M => z.2) z)) E e_h22
theorem gr_X6_readComparison {a : Nat} (hA : qLaw a) (h : qa_M) (r_h : h.2.2.1 21 1 = a + 1) {z : (Int32 × qa_M)} (E : m_X6_readComparison h = some z) : qfr (wTs a) h ((fun z : Int32 × qa_M => z.2) z) := by
  unfold m_X6_readComparison at E
  have e_h : qfr (wTs a) h h := qfr_rf
  obtain ⟨c1, h1, E0, E⟩ := qbn_el E
  have e_h1 : qfr (wTs a) h h1 := qfr_tr e_h (qfr_sub qsub_nil (fr_X6_signCode h E0))
  have r_h1 := wTs_r hA e_h1 r_h
  obtain ⟨v4, -, E⟩ := qbd_el E
  rcases qif_el E with E | E
  · exact qfr_tr e_h1 (gr_X6_readComparison_b17 hA h1 r_h1 E)
  · rcases qif_el E with E | E
    · obtain ⟨c27, h27, E0, E⟩ := qbn_el E
      have e_h27 : qfr (wTs a) h h27 := qfr_tr e_h1 (qfr_sub (qsub_c (by simp [wTs]) (qsub_c (by simp [wTs]) qsub_nil)) (fr_X6_isRoomForPart h1 E0))
      have r_h27 := wTs_r hA e_h27 r_h
      rcases qif_el E with E | E
      · exact qsome_f (Q := fun z => qfr (wTs a) h ((fun z : Int32 × qa_M => z.2) z)) E e_h27
      · obtain ⟨h37, q_h37, E⟩ := qbd_el E
        have e_h37 : qfr (wTs a) h h37 := qfr_Ik q_h37 (by simp [wTs]) e_h27
        have r_h37 := wTs_r hA e_h37 r_h
        obtain ⟨h44, E0, E⟩ := qbv_el E
        have e_h44 : qfr (wTs a) h h44 := qfr_tr e_h37 (qfr_sub (qsub_c (by simp [wTs]) (qsub_c (by simp [wTs]) (qsub_c (by simp [wTs]) (qsub_c (by simp [wTs]) qsub_nil)))) (fr_X9_scan h37 E0))
        have r_h44 := wTs_r hA e_h44 r_h
        exact qsome_f (Q := fun z => qfr (wTs a) h ((fun z : Int32 × qa_M => z.2) z)) E e_h44
    · exact qfr_tr e_h1 (gr_X6_readComparison_b17 hA h1 r_h1 E)
theorem gr_X6_endComparison {a : Nat} (hA : qLaw a) (h : qa_M) (r_h : h.2.2.1 21 1 = a + 1) {z : (Int32 × qa_M)} (E : m_X6_endComparison h = some z) : qfr (wTs a) h ((fun z : Int32 × qa_M => z.2) z) := by
  unfold m_X6_endComparison at E
  have e_h : qfr (wTs a) h h := qfr_rf
  rw [r_h, qnn_s] at E
  obtain ⟨-, E⟩ := qpr_el E
  obtain ⟨h8, E0, E⟩ := qbv_el E
  have e_h8 : qfr (wTs a) h h8 := qfr_tr e_h (qfr_sub (qsub_c (by simp [wTs]) (qsub_c (by simp [wTs]) qsub_nil)) (fr_X5_emit a (h.1 21 3) h E0))
  have r_h8 := wTs_r hA e_h8 r_h
  exact qsome_f (Q := fun z => qfr (wTs a) h ((fun z : Int32 × qa_M => z.2) z)) E e_h8
theorem gr_X6_readFact_b68 {a : Nat} {F : Bool → Int32 → qa_M → Option (Int32 × qa_M)} (hA : qLaw a) (hF : ∀ (b : Bool) (x : Int32) (h : qa_M) {z : Int32 × qa_M}, h.2.2.1 21 1 = a + 1 → F b x h = some z → qfr (wTs a) h z.2) (x1 : Int32) (x2 : Int32) (h : qa_M) (r_h : h.2.2.1 21 1 = a + 1) {z : (Int32 × qa_M)} (E : f_X6_readFact_b68 F x1 x2 h = some z) : qfr (wTs a) h ((fun z : Int32 × qa_M => z.2) z) := by
  unfold f_X6_readFact_b68 at E
  have e_h : qfr (wTs a) h h := qfr_rf
  rcases qif_el E with E | E
  · obtain ⟨h87, E0, E⟩ := qbv_el E
    have e_h87 : qfr (wTs a) h h87 := qfr_tr e_h (qfr_sub (qsub_c (by simp [wTs]) (qsub_c (by simp [wTs]) (qsub_c (by simp [wTs]) (qsub_c (by simp [wTs]) qsub_nil)))) (fr_X9_scan h E0))
    have r_h87 := wTs_r hA e_h87 r_h
    rcases qif_el E with E | E
    · obtain ⟨c121, h121, E0, E⟩ := qbn_el E
      have e_h121 : qfr (wTs a) h h121 := qfr_tr e_h87 (hF true (x1 + (1 : Int32)) h87 r_h87 E0)
      have r_h121 := wTs_r hA e_h121 r_h
      rcases qif_el E with E | E
      · exact qsome_f (Q := fun z => qfr (wTs a) h ((fun z : Int32 × qa_M => z.2) z)) E e_h121
      · obtain ⟨c135, h135, E0, E⟩ := qbn_el E
        have e_h135 : qfr (wTs a) h h135 := qfr_tr e_h121 (qfr_sub qsub_nil (fr_X9_isSign (93 : Int32) h121 E0))
        have r_h135 := wTs_r hA e_h135 r_h
        rcases qif_el E with E | E
        · obtain ⟨c146, h146, E0, E⟩ := qbn_el E
          have e_h146 : qfr (wTs a) h h146 := qfr_tr e_h135 (qfr_sub (qsub_c (by simp [wTs]) qsub_nil) (fr_X9_fail (0 : Int32) h135 E0))
          have r_h146 := wTs_r hA e_h146 r_h
          obtain ⟨-, E⟩ := qpr_el E
          exact qsome_f (Q := fun z => qfr (wTs a) h ((fun z : Int32 × qa_M => z.2) z)) E e_h146
        · obtain ⟨h154, E0, E⟩ := qbv_el E
          have e_h154 : qfr (wTs a) h h154 := qfr_tr e_h135 (qfr_sub (qsub_c (by simp [wTs]) (qsub_c (by simp [wTs]) (qsub_c (by simp [wTs]) (qsub_c (by simp [wTs]) qsub_nil)))) (fr_X9_scan h135 E0))
          have r_h154 := wTs_r hA e_h154 r_h
          exact qsome_f (Q := fun z => qfr (wTs a) h ((fun z : Int32 × qa_M => z.2) z)) E e_h154
    · obtain ⟨c98, h98, E0, E⟩ := qbn_el E
      have e_h98 : qfr (wTs a) h h98 := qfr_tr e_h87 (hF false (x1 + (1 : Int32)) h87 r_h87 E0)
      have r_h98 := wTs_r hA e_h98 r_h
      rcases qif_el E with E | E
      · exact qsome_f (Q := fun z => qfr (wTs a) h ((fun z : Int32 × qa_M => z.2) z)) E e_h98
      · rw [r_h98, qnn_s] at E
        obtain ⟨-, E⟩ := qpr_el E
        obtain ⟨h112, E0, E⟩ := qbv_el E
        have e_h112 : qfr (wTs a) h h112 := qfr_tr e_h98 (qfr_sub (qsub_c (by simp [wTs]) (qsub_c (by simp [wTs]) qsub_nil)) (fr_X5_emit a (-22 : Int32) h98 E0))
        have r_h112 := wTs_r hA e_h112 r_h
        exact qsome_f (Q := fun z => qfr (wTs a) h ((fun z : Int32 × qa_M => z.2) z)) E e_h112
  · obtain ⟨c79, h79, E0, E⟩ := qbn_el E
    have e_h79 : qfr (wTs a) h h79 := qfr_tr e_h (qfr_sub (qsub_c (by simp [wTs]) qsub_nil) (fr_X9_fail (2 : Int32) h E0))
    have r_h79 := wTs_r hA e_h79 r_h
    obtain ⟨-, E⟩ := qpr_el E
    exact qsome_f (Q := fun z => qfr (wTs a) h ((fun z : Int32 × qa_M => z.2) z)) E e_h79
theorem gr_X6_readFact_b17 {a : Nat} {F : Bool → Int32 → qa_M → Option (Int32 × qa_M)} (hA : qLaw a) (hF : ∀ (b : Bool) (x : Int32) (h : qa_M) {z : Int32 × qa_M}, h.2.2.1 21 1 = a + 1 → F b x h = some z → qfr (wTs a) h z.2) (x1 : Int32) (s0 : Int32) (h : qa_M) (r_h : h.2.2.1 21 1 = a + 1) {z : (Int32 × qa_M)} (E : f_X6_readFact_b17 F x1 s0 h = some z) : qfr (wTs a) h ((fun z : Int32 × qa_M => z.2) z) := by
  unfold f_X6_readFact_b17 at E
  have e_h : qfr (wTs a) h h := qfr_rf
  obtain ⟨v17, -, E⟩ := qbd_el E
  rcases qif_el E with E | E
  · obtain ⟨c28, h28, E0, E⟩ := qbn_el E
    have e_h28 : qfr (wTs a) h h28 := qfr_tr e_h (qfr_sub qsub_nil (fr_X9_isSign (91 : Int32) h E0))
    have r_h28 := wTs_r hA e_h28 r_h
    rcases qif_el E with E | E
    · obtain ⟨c35, h35, E0, E⟩ := qbn_el E
      have e_h35 : qfr (wTs a) h h35 := qfr_tr e_h28 (gr_X6_readSum hA h28 r_h28 E0)
      have r_h35 := wTs_r hA e_h35 r_h
      rcases qif_el E with E | E
      · exact qsome_f (Q := fun z => qfr (wTs a) h ((fun z : Int32 × qa_M => z.2) z)) E e_h35
      · obtain ⟨c42, h42, E0, E⟩ := qbn_el E
        have e_h42 : qfr (wTs a) h h42 := qfr_tr e_h35 (gr_X6_readComparison hA h35 r_h35 E0)
        have r_h42 := wTs_r hA e_h42 r_h
        rcases qif_el E with E | E
        · exact qsome_f (Q := fun z => qfr (wTs a) h ((fun z : Int32 × qa_M => z.2) z)) E e_h42
        · obtain ⟨c49, h49, E0, E⟩ := qbn_el E
          have e_h49 : qfr (wTs a) h h49 := qfr_tr e_h42 (gr_X6_readSum hA h42 r_h42 E0)
          have r_h49 := wTs_r hA e_h49 r_h
          rcases qif_el E with E | E
          · exact qsome_f (Q := fun z => qfr (wTs a) h ((fun z : Int32 × qa_M => z.2) z)) E e_h49
          · obtain ⟨c56, h56, E0, E⟩ := qbn_el E
            have e_h56 : qfr (wTs a) h h56 := qfr_tr e_h49 (gr_X6_endComparison hA h49 r_h49 E0)
            have r_h56 := wTs_r hA e_h56 r_h
            rcases qif_el E with E | E
            · exact qsome_f (Q := fun z => qfr (wTs a) h ((fun z : Int32 × qa_M => z.2) z)) E e_h56
            · exact qsome_f (Q := fun z => qfr (wTs a) h ((fun z : Int32 × qa_M => z.2) z)) E e_h56
    · exact qfr_tr e_h28 (gr_X6_readFact_b68 hA hF x1 v17 h28 r_h28 E)
  · exact qfr_tr e_h (gr_X6_readFact_b68 hA hF x1 v17 h r_h E)
theorem gr_X6_readFact_F {a : Nat} {F : Bool → Int32 → qa_M → Option (Int32 × qa_M)} (hA : qLaw a) (hF : ∀ (b : Bool) (x : Int32) (h : qa_M) {z : Int32 × qa_M}, h.2.2.1 21 1 = a + 1 → F b x h = some z → qfr (wTs a) h z.2) (x1 : Int32) (h : qa_M) (r_h : h.2.2.1 21 1 = a + 1) {z : (Int32 × qa_M)} (E : m_X6_readFact_F F x1 h = some z) : qfr (wTs a) h ((fun z : Int32 × qa_M => z.2) z) := by
  unfold m_X6_readFact_F at E
  have e_h : qfr (wTs a) h h := qfr_rf
  obtain ⟨c6, h6, E0, E⟩ := qbn_el E
  have e_h6 : qfr (wTs a) h h6 := qfr_tr e_h (qfr_sub qsub_nil (fr_X9_among 2 h E0))
  have r_h6 := wTs_r hA e_h6 r_h
  rcases qif_el E with E | E
  · exact qfr_tr e_h6 (gr_X6_readFact_b17 hA hF x1 (1 : Int32) h6 r_h6 E)
  · exact qfr_tr e_h6 (gr_X6_readFact_b17 hA hF x1 (0 : Int32) h6 r_h6 E)
theorem gr_X6_readTest_b113 {a : Nat} {F : Bool → Int32 → qa_M → Option (Int32 × qa_M)} (hA : qLaw a) (hF : ∀ (b : Bool) (x : Int32) (h : qa_M) {z : Int32 × qa_M}, h.2.2.1 21 1 = a + 1 → F b x h = some z → qfr (wTs a) h z.2) (x2 : Int32) (h : qa_M) (r_h : h.2.2.1 21 1 = a + 1) {z : (Int32 × qa_M)} (E : f_X6_readTest_b113 F x2 h = some z) : qfr (wTs a) h ((fun z : Int32 × qa_M => z.2) z) := by
  unfold f_X6_readTest_b113 at E
  have e_h : qfr (wTs a) h h := qfr_rf
  rcases qif_el E with E | E
  · exact qsome_f (Q := fun z => qfr (wTs a) h ((fun z : Int32 × qa_M => z.2) z)) E e_h
  · rw [r_h, qnn_s] at E
    obtain ⟨-, E⟩ := qpr_el E
    obtain ⟨h123, E0, E⟩ := qbv_el E
    have e_h123 : qfr (wTs a) h h123 := qfr_tr e_h (qfr_sub (qsub_c (by simp [wTs]) (qsub_c (by simp [wTs]) qsub_nil)) (fr_X5_emit a (-21 : Int32) h E0))
    have r_h123 := wTs_r hA e_h123 r_h
    exact qsome_f (Q := fun z => qfr (wTs a) h ((fun z : Int32 × qa_M => z.2) z)) E e_h123
theorem gr_X6_readTest_b107 {a : Nat} {F : Bool → Int32 → qa_M → Option (Int32 × qa_M)} (hA : qLaw a) (hF : ∀ (b : Bool) (x : Int32) (h : qa_M) {z : Int32 × qa_M}, h.2.2.1 21 1 = a + 1 → F b x h = some z → qfr (wTs a) h z.2) (x1 : Int32) (x2 : Int32) (x3 : Int32) (h : qa_M) (r_h : h.2.2.1 21 1 = a + 1) {z : ((Int32 × Int32 × Int32 × qa_M) ⊕ (Int32 × qa_M))} (E : f_X6_readTest_b107 F x1 x2 x3 h = some z) : qfr (wTs a) h ((Sum.elim (fun z : Int32 × Int32 × Int32 × qa_M => z.2.2.2) (fun z : Int32 × qa_M => z.2)) z) := by
  unfold f_X6_readTest_b107 at E
  have e_h : qfr (wTs a) h h := qfr_rf
  obtain ⟨v107, -, E⟩ := qbd_el E
  exact qsome_f (Q := fun z => qfr (wTs a) h ((Sum.elim (fun z : Int32 × Int32 × Int32 × qa_M => z.2.2.2) (fun z : Int32 × qa_M => z.2)) z)) E e_h
theorem gr_X6_readTest_b75 {a : Nat} {F : Bool → Int32 → qa_M → Option (Int32 × qa_M)} (hA : qLaw a) (hF : ∀ (b : Bool) (x : Int32) (h : qa_M) {z : Int32 × qa_M}, h.2.2.1 21 1 = a + 1 → F b x h = some z → qfr (wTs a) h z.2) (x1 : Int32) (x3 : Int32) (x4 : Int32) (s0 : Int32) (h : qa_M) (r_h : h.2.2.1 21 1 = a + 1) {z : ((Int32 × Int32 × Int32 × qa_M) ⊕ (Int32 × qa_M))} (E : f_X6_readTest_b75 F x1 x3 x4 s0 h = some z) : qfr (wTs a) h ((Sum.elim (fun z : Int32 × Int32 × Int32 × qa_M => z.2.2.2) (fun z : Int32 × qa_M => z.2)) z) := by
  unfold f_X6_readTest_b75 at E
  have e_h : qfr (wTs a) h h := qfr_rf
  obtain ⟨v75, -, E⟩ := qbd_el E
  obtain ⟨h80, E0, E⟩ := qbv_el E
  have e_h80 : qfr (wTs a) h h80 := qfr_tr e_h (qfr_sub (qsub_c (by simp [wTs]) (qsub_c (by simp [wTs]) (qsub_c (by simp [wTs]) (qsub_c (by simp [wTs]) qsub_nil)))) (fr_X9_scan h E0))
  have r_h80 := wTs_r hA e_h80 r_h
  obtain ⟨c85, h85, E0, E⟩ := qbn_el E
  have e_h85 : qfr (wTs a) h h85 := qfr_tr e_h80 (hF false x1 h80 r_h80 E0)
  have r_h85 := wTs_r hA e_h85 r_h
  rcases qif_el E with E | E
  · refine qup_f (Q := fun z => qfr (wTs a) h ((Sum.elim (fun z : Int32 × Int32 × Int32 × qa_M => z.2.2.2) (fun z : Int32 × qa_M => z.2)) z)) E (fun rz E => ?_)
    exact qsome_f (Q := fun z => qfr (wTs a) h ((fun z : Int32 × qa_M => z.2) z)) E e_h85
  · rcases qif_el E with E | E
    · rw [r_h85, qnn_s] at E
      obtain ⟨-, E⟩ := qpr_el E
      obtain ⟨h104, E0, E⟩ := qbv_el E
      have e_h104 : qfr (wTs a) h h104 := qfr_tr e_h85 (qfr_sub (qsub_c (by simp [wTs]) (qsub_c (by simp [wTs]) qsub_nil)) (fr_X5_emit a (-20 : Int32) h85 E0))
      have r_h104 := wTs_r hA e_h104 r_h
      exact qfr_tr e_h104 (gr_X6_readTest_b107 hA hF x1 v75 x3 h104 r_h104 E)
    · exact qfr_tr e_h85 (gr_X6_readTest_b107 hA hF x1 v75 x3 h85 r_h85 E)
theorem gr_X6_readTest_b70 {a : Nat} {F : Bool → Int32 → qa_M → Option (Int32 × qa_M)} (hA : qLaw a) (hF : ∀ (b : Bool) (x : Int32) (h : qa_M) {z : Int32 × qa_M}, h.2.2.1 21 1 = a + 1 → F b x h = some z → qfr (wTs a) h z.2) (x1 : Int32) (x3 : Int32) (x4 : Int32) (h : qa_M) (r_h : h.2.2.1 21 1 = a + 1) {z : ((Int32 × Int32 × Int32 × qa_M) ⊕ (Int32 × qa_M))} (E : f_X6_readTest_b70 F x1 x3 x4 h = some z) : qfr (wTs a) h ((Sum.elim (fun z : Int32 × Int32 × Int32 × qa_M => z.2.2.2) (fun z : Int32 × qa_M => z.2)) z) := by
  unfold f_X6_readTest_b70 at E
  have e_h : qfr (wTs a) h h := qfr_rf
  exact qfr_tr e_h (gr_X6_readTest_b75 hA hF x1 x3 x4 (1 : Int32) h r_h E)
theorem gr_X6_readTest_b60 {a : Nat} {F : Bool → Int32 → qa_M → Option (Int32 × qa_M)} (hA : qLaw a) (hF : ∀ (b : Bool) (x : Int32) (h : qa_M) {z : Int32 × qa_M}, h.2.2.1 21 1 = a + 1 → F b x h = some z → qfr (wTs a) h z.2) (x1 : Int32) (x2 : Int32) (x3 : Int32) (x4 : Int32) (h : qa_M) (r_h : h.2.2.1 21 1 = a + 1) {z : ((Int32 × Int32 × Int32 × qa_M) ⊕ (Int32 × qa_M))} (E : f_X6_readTest_b60 F x1 x2 x3 x4 h = some z) : qfr (wTs a) h ((Sum.elim (fun z : Int32 × Int32 × Int32 × qa_M => z.2.2.2) (fun z : Int32 × qa_M => z.2)) z) := by
  unfold f_X6_readTest_b60 at E
  have e_h : qfr (wTs a) h h := qfr_rf
  rcases qif_el E with E | E
  · rcases qif_el E with E | E
    · exact qfr_tr e_h (gr_X6_readTest_b70 hA hF x1 x3 x4 h r_h E)
    · exact qfr_tr e_h (gr_X6_readTest_b75 hA hF x1 x3 x4 (0 : Int32) h r_h E)
  · exact qfr_tr e_h (gr_X6_readTest_b70 hA hF x1 x3 x4 h r_h E)
theorem gr_X6_readTest_b38 {a : Nat} {F : Bool → Int32 → qa_M → Option (Int32 × qa_M)} (hA : qLaw a) (hF : ∀ (b : Bool) (x : Int32) (h : qa_M) {z : Int32 × qa_M}, h.2.2.1 21 1 = a + 1 → F b x h = some z → qfr (wTs a) h z.2) (x2 : Int32) (h : qa_M) (r_h : h.2.2.1 21 1 = a + 1) {z : (Int32 × qa_M)} (E : f_X6_readTest_b38 F x2 h = some z) : qfr (wTs a) h ((fun z : Int32 × qa_M => z.2) z) := by
  unfold f_X6_readTest_b38 at E
  have e_h : qfr (wTs a) h h := qfr_rf
  exact qfr_tr e_h (gr_X6_readTest_b113 hA hF x2 h r_h E)
theorem gr_X6_readTest_b14 {a : Nat} {F : Bool → Int32 → qa_M → Option (Int32 × qa_M)} (hA : qLaw a) (hF : ∀ (b : Bool) (x : Int32) (h : qa_M) {z : Int32 × qa_M}, h.2.2.1 21 1 = a + 1 → F b x h = some z → qfr (wTs a) h z.2) (x1 : Int32) (x2 : Int32) (x3 : Int32) (h : qa_M) (r_h : h.2.2.1 21 1 = a + 1) {z : ((Int32 × Int32 × Int32 × qa_M) ⊕ (Int32 × qa_M))} (E : f_X6_readTest_b14 F x1 x2 x3 h = some z) : qfr (wTs a) h ((Sum.elim (fun z : Int32 × Int32 × Int32 × qa_M => z.2.2.2) (fun z : Int32 × qa_M => z.2)) z) := by
  unfold f_X6_readTest_b14 at E
  have e_h : qfr (wTs a) h h := qfr_rf
  rcases qif_el E with E | E
  · refine qup_f (Q := fun z => qfr (wTs a) h ((Sum.elim (fun z : Int32 × Int32 × Int32 × qa_M => z.2.2.2) (fun z : Int32 × qa_M => z.2)) z)) E (fun rz E => ?_)
    exact qfr_tr e_h (gr_X6_readTest_b113 hA hF x2 h r_h E)
  · obtain ⟨c27, h27, E0, E⟩ := qbn_el E
    have e_h27 : qfr (wTs a) h h27 := qfr_tr e_h (qfr_sub qsub_nil (fr_X9_among 4 h E0))
    have r_h27 := wTs_r hA e_h27 r_h
    obtain ⟨v30, -, E⟩ := qbd_el E
    rcases qif_el E with E | E
    · refine qup_f (Q := fun z => qfr (wTs a) h ((Sum.elim (fun z : Int32 × Int32 × Int32 × qa_M => z.2.2.2) (fun z : Int32 × qa_M => z.2)) z)) E (fun rz E => ?_)
      exact qfr_tr e_h27 (gr_X6_readTest_b38 hA hF x2 h27 r_h27 E)
    · rcases qif_el E with E | E
      · rcases qif_el E with E | E
        · exact qfr_tr e_h27 (gr_X6_readTest_b60 hA hF x1 x2 x3 v30 h27 r_h27 E)
        · rw [r_h27, qnn_s] at E
          obtain ⟨-, E⟩ := qpr_el E
          obtain ⟨h57, E0, E⟩ := qbv_el E
          have e_h57 : qfr (wTs a) h h57 := qfr_tr e_h27 (qfr_sub (qsub_c (by simp [wTs]) (qsub_c (by simp [wTs]) qsub_nil)) (fr_X5_emit a (-21 : Int32) h27 E0))
          have r_h57 := wTs_r hA e_h57 r_h
          exact qfr_tr e_h57 (gr_X6_readTest_b60 hA hF x1 x2 x3 v30 h57 r_h57 E)
      · exact qfr_tr e_h27 (gr_X6_readTest_b60 hA hF x1 x2 x3 v30 h27 r_h27 E)
theorem gr_X6_readTest_b14_loop {a : Nat} {F : Bool → Int32 → qa_M → Option (Int32 × qa_M)} (hA : qLaw a) (hF : ∀ (b : Bool) (x : Int32) (h : qa_M) {z : Int32 × qa_M}, h.2.2.1 21 1 = a + 1 → F b x h = some z → qfr (wTs a) h z.2) (x1 : Int32) (x2 : Int32) (x3 : Int32) (h : qa_M) (r_h : h.2.2.1 21 1 = a + 1) {z : (Int32 × qa_M)} (E : f_X6_readTest_b14_loop F x1 x2 x3 h = some z) : qfr (wTs a) h ((fun z : Int32 × qa_M => z.2) z) :=
  qlp_ind (fun sz : Int32 × Int32 × Int32 × qa_M => (sz.2.2.2).2.2.1 21 1 = a + 1 → qfr (wTs a) (sz.2.2.2) ((fun z : Int32 × qa_M => z.2) z)) (fun sz E r => gr_X6_readTest_b14 hA hF sz.1 sz.2.1 sz.2.2.1 sz.2.2.2 r E) (fun sz sz2 E ih r => qfr_tr (gr_X6_readTest_b14 hA hF sz.1 sz.2.1 sz.2.2.1 sz.2.2.2 r E) (ih (wTs_r hA (gr_X6_readTest_b14 hA hF sz.1 sz.2.1 sz.2.2.1 sz.2.2.2 r E) r))) (x1, x2, x3, h) E r_h
theorem gr_X6_readTest_F {a : Nat} {F : Bool → Int32 → qa_M → Option (Int32 × qa_M)} (hA : qLaw a) (hF : ∀ (b : Bool) (x : Int32) (h : qa_M) {z : Int32 × qa_M}, h.2.2.1 21 1 = a + 1 → F b x h = some z → qfr (wTs a) h z.2) (x1 : Int32) (h : qa_M) (r_h : h.2.2.1 21 1 = a + 1) {z : (Int32 × qa_M)} (E : m_X6_readTest_F F x1 h = some z) : qfr (wTs a) h ((fun z : Int32 × qa_M => z.2) z) := by
  unfold m_X6_readTest_F at E
  have e_h : qfr (wTs a) h h := qfr_rf
  obtain ⟨v1, -, E⟩ := qbd_el E
  obtain ⟨c4, h4, E0, E⟩ := qbn_el E
  have e_h4 : qfr (wTs a) h h4 := qfr_tr e_h (hF false x1 h r_h E0)
  have r_h4 := wTs_r hA e_h4 r_h
  rcases qif_el E with E | E
  · exact qsome_f (Q := fun z => qfr (wTs a) h ((fun z : Int32 × qa_M => z.2) z)) E e_h4
  · obtain ⟨v13, -, E⟩ := qbd_el E
    exact qfr_tr e_h4 (gr_X6_readTest_b14_loop hA hF x1 v1 v13 h4 r_h4 E)
theorem gr_X6_rec {a : Nat} (hA : qLaw a) : ∀ (n : Nat) (b : Bool) (x : Int32) (h : qa_M) {z : Int32 × qa_M}, h.2.2.1 21 1 = a + 1 → m_X6_rec n b x h = some z → qfr (wTs a) h z.2
  | 0, b, x, h, z, r, E => by cases b <;> cases E
  | n + 1, true, x, h, z, r, E => gr_X6_readTest_F hA (gr_X6_rec hA n) x h r E
  | n + 1, false, x, h, z, r, E => gr_X6_readFact_F hA (gr_X6_rec hA n) x h r E
