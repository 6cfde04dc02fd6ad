theorem fr_X12_fillsBoth_b78_loop (x1 : Int32) (x2 : Int32) (h : qa_M) {z : ((Int32 × qa_M) ⊕ qa_M)} (E : f_X12_fillsBoth_b78_loop x1 x2 h = some z) : qfr wf_X12_fillsBoth_b78 h ((Sum.elim (fun z : Int32 × qa_M => z.2) (fun z : qa_M => z)) z) :=
  qlp_ind (fun sz : Int32 × Int32 × qa_M => qfr wf_X12_fillsBoth_b78 (sz.2.2) ((Sum.elim (fun z : Int32 × qa_M => z.2) (fun z : qa_M => z)) z)) (fun sz E => fr_X12_fillsBoth_b78 sz.1 sz.2.1 sz.2.2 E) (fun sz sz2 E ih => qfr_tr (fr_X12_fillsBoth_b78 sz.1 sz.2.1 sz.2.2 E) ih) (x1, x2, h) E
def wf_X12_fillsBoth_b68 : List (Nat × Nat) := [(119, 50), (151, 0), (158, 0), (159, 0)]
theorem fr_X12_fillsBoth_b68 (x1 : Int32) (h : qa_M) {z : ((Int32 × qa_M) ⊕ qa_M)} (E : f_X12_fillsBoth_b68 x1 h = some z) : qfr wf_X12_fillsBoth_b68 h ((Sum.elim (fun z : Int32 × qa_M => z.2) (fun z : qa_M => z)) z) := by
  unfold f_X12_fillsBoth_b68 at E
  have e_h : qfr wf_X12_fillsBoth_b68 h h := qfr_rf
  obtain ⟨c70, h70, E0, E⟩ := qbn_el E
  have e_h70 := qfr_tr e_h (qfr_sub (qsub_c (List.mem_of_getElem? (i := 0) rfl) (qsub_c (List.mem_of_getElem? (i := 1) rfl) qsub_nil)) (fr_X12_goesTo x1 h E0))
  rcases qif_el E with E | E
  · refine qup_f (Q := fun z => qfr wf_X12_fillsBoth_b68 h ((Sum.elim (fun z : Int32 × qa_M => z.2) (fun z : qa_M => z)) z)) E (fun rz E => ?_)
    exact qsome_f (Q := fun z => qfr wf_X12_fillsBoth_b68 h ((fun z : qa_M => z) z)) E e_h70
  · obtain ⟨v77, -, E⟩ := qbd_el E
    exact qfr_tr e_h70 (qfr_sub (qsub_c (List.mem_of_getElem? (i := 2) rfl) (qsub_c (List.mem_of_getElem? (i := 3) rfl) qsub_nil)) (fr_X12_fillsBoth_b78_loop x1 v77 h70 E))
theorem fr_X12_fillsBoth_b68_loop (x1 : Int32) (h : qa_M) {z : qa_M} (E : f_X12_fillsBoth_b68_loop x1 h = some z) : qfr wf_X12_fillsBoth_b68 h ((fun z : qa_M => z) z) :=
  qlp_ind (fun sz : Int32 × qa_M => qfr wf_X12_fillsBoth_b68 (sz.2) ((fun z : qa_M => z) z)) (fun sz E => fr_X12_fillsBoth_b68 sz.1 sz.2 E) (fun sz sz2 E ih => qfr_tr (fr_X12_fillsBoth_b68 sz.1 sz.2 E) ih) (x1, h) E
def wf_X12_fillsBoth_b30 : List (Nat × Nat) := [(119, 50), (151, 0), (156, 0), (158, 0), (159, 0)]
theorem fr_X12_fillsBoth_b30 (x1 : Int32) (x2 : Int32) (h : qa_M) {z : ((Int32 × Int32 × qa_M) ⊕ qa_M)} (E : f_X12_fillsBoth_b30 x1 x2 h = some z) : qfr wf_X12_fillsBoth_b30 h ((Sum.elim (fun z : Int32 × Int32 × qa_M => z.2.2) (fun z : qa_M => z)) z) := by
  unfold f_X12_fillsBoth_b30 at E
  have e_h : qfr wf_X12_fillsBoth_b30 h h := qfr_rf
  obtain ⟨-, E⟩ := qck_el E
  rcases qif_el E with E | E
  · refine qup_f (Q := fun z => qfr wf_X12_fillsBoth_b30 h ((Sum.elim (fun z : Int32 × Int32 × qa_M => z.2.2) (fun z : qa_M => z)) z)) E (fun rz E => ?_)
    exact qfr_tr e_h (qfr_sub (qsub_c (List.mem_of_getElem? (i := 0) rfl) (qsub_c (List.mem_of_getElem? (i := 1) rfl) (qsub_c (List.mem_of_getElem? (i := 3) rfl) (qsub_c (List.mem_of_getElem? (i := 4) rfl) qsub_nil)))) (fr_X12_fillsBoth_b68_loop x1 h E))
  · obtain ⟨-, E⟩ := qck_el E
    obtain ⟨-, E⟩ := qck_el E
    obtain ⟨c58, h58, E0, E⟩ := qbn_el E
    have e_h58 := qfr_tr e_h (qfr_sub qsub_nil (fr_X12_seenFrom (h.1 122 x2.toNatClampNeg) (h.1 123 x2.toNatClampNeg) h E0))
    obtain ⟨-, E⟩ := qck_el E
    obtain ⟨h61, q_h61, E⟩ := qbd_el E
    have e_h61 := qfr_J0 q_h61 (List.mem_of_getElem? (i := 2) rfl) e_h58
    obtain ⟨v62, -, E⟩ := qbd_el E
    exact qsome_f (Q := fun z => qfr wf_X12_fillsBoth_b30 h ((Sum.elim (fun z : Int32 × Int32 × qa_M => z.2.2) (fun z : qa_M => z)) z)) E e_h61
theorem fr_X12_fillsBoth_b30_loop (x1 : Int32) (x2 : Int32) (h : qa_M) {z : qa_M} (E : f_X12_fillsBoth_b30_loop x1 x2 h = some z) : qfr wf_X12_fillsBoth_b30 h ((fun z : qa_M => z) z) :=
  qlp_ind (fun sz : Int32 × Int32 × qa_M => qfr wf_X12_fillsBoth_b30 (sz.2.2) ((fun z : qa_M => z) z)) (fun sz E => fr_X12_fillsBoth_b30 sz.1 sz.2.1 sz.2.2 E) (fun sz sz2 E ih => qfr_tr (fr_X12_fillsBoth_b30 sz.1 sz.2.1 sz.2.2 E) ih) (x1, x2, h) E
def wf_X12_fillsBoth_b24 : List (Nat × Nat) := [(119, 49), (119, 50), (149, 0), (150, 0), (151, 0), (152, 0), (153, 0), (154, 0), (155, 0), (156, 0), (158, 0), (159, 0)]
theorem fr_X12_fillsBoth_b24 (x1 : Int32) (h : qa_M) {z : qa_M} (E : f_X12_fillsBoth_b24 x1 h = some z) : qfr wf_X12_fillsBoth_b24 h ((fun z : qa_M => z) z) := by
  unfold f_X12_fillsBoth_b24 at E
  have e_h : qfr wf_X12_fillsBoth_b24 h h := qfr_rf
  obtain ⟨h25, E0, E⟩ := qbv_el E
  have e_h25 := qfr_tr e_h (qfr_sub (qsub_c (List.mem_of_getElem? (i := 0) rfl) (qsub_c (List.mem_of_getElem? (i := 1) rfl) (qsub_c (List.mem_of_getElem? (i := 2) rfl) (qsub_c (List.mem_of_getElem? (i := 3) rfl) (qsub_c (List.mem_of_getElem? (i := 5) rfl) (qsub_c (List.mem_of_getElem? (i := 6) rfl) (qsub_c (List.mem_of_getElem? (i := 7) rfl) (qsub_c (List.mem_of_getElem? (i := 8) rfl) qsub_nil)))))))) (fr_X12_beginsLayings h E0))
  obtain ⟨v29, -, E⟩ := qbd_el E
  exact qfr_tr e_h25 (qfr_sub (qsub_c (List.mem_of_getElem? (i := 1) rfl) (qsub_c (List.mem_of_getElem? (i := 4) rfl) (qsub_c (List.mem_of_getElem? (i := 9) rfl) (qsub_c (List.mem_of_getElem? (i := 10) rfl) (qsub_c (List.mem_of_getElem? (i := 11) rfl) qsub_nil))))) (fr_X12_fillsBoth_b30_loop x1 v29 h25 E))
def wf_X12_fillsBoth_b2 : List (Nat × Nat) := [(119, 49), (119, 50), (149, 0), (150, 0), (151, 0), (152, 0), (153, 0), (154, 0), (155, 0), (156, 0), (158, 0), (159, 0)]
theorem fr_X12_fillsBoth_b2 (x1 : Int32) (x2 : Int32) (h : qa_M) {z : ((Int32 × Int32 × qa_M) ⊕ qa_M)} (E : f_X12_fillsBoth_b2 x1 x2 h = some z) : qfr wf_X12_fillsBoth_b2 h ((Sum.elim (fun z : Int32 × Int32 × qa_M => z.2.2) (fun z : qa_M => z)) z) := by
  unfold f_X12_fillsBoth_b2 at E
  have e_h : qfr wf_X12_fillsBoth_b2 h h := qfr_rf
  rcases qif_el E with E | E
  · refine qup_f (Q := fun z => qfr wf_X12_fillsBoth_b2 h ((Sum.elim (fun z : Int32 × Int32 × qa_M => z.2.2) (fun z : qa_M => z)) z)) E (fun rz E => ?_)
    exact qfr_tr e_h (qfr_sub (qsub_c (List.mem_of_getElem? (i := 0) rfl) (qsub_c (List.mem_of_getElem? (i := 1) rfl) (qsub_c (List.mem_of_getElem? (i := 2) rfl) (qsub_c (List.mem_of_getElem? (i := 3) rfl) (qsub_c (List.mem_of_getElem? (i := 4) rfl) (qsub_c (List.mem_of_getElem? (i := 5) rfl) (qsub_c (List.mem_of_getElem? (i := 6) rfl) (qsub_c (List.mem_of_getElem? (i := 7) rfl) (qsub_c (List.mem_of_getElem? (i := 8) rfl) (qsub_c (List.mem_of_getElem? (i := 9) rfl) (qsub_c (List.mem_of_getElem? (i := 10) rfl) (qsub_c (List.mem_of_getElem? (i := 11) rfl) qsub_nil)))))))))))) (fr_X12_fillsBoth_b24 x1 h E))
  · obtain ⟨-, E⟩ := qck_el E
    obtain ⟨h17, q_h17, E⟩ := qbd_el E
    have e_h17 := qfr_I0 q_h17 (List.mem_of_getElem? (i := 11) rfl) e_h
    obtain ⟨v18, -, E⟩ := qbd_el E
    exact qsome_f (Q := fun z => qfr wf_X12_fillsBoth_b2 h ((Sum.elim (fun z : Int32 × Int32 × qa_M => z.2.2) (fun z : qa_M => z)) z)) E e_h17
theorem fr_X12_fillsBoth_b2_loop (x1 : Int32) (x2 : Int32) (h : qa_M) {z : qa_M} (E : f_X12_fillsBoth_b2_loop x1 x2 h = some z) : qfr wf_X12_fillsBoth_b2 h ((fun z : qa_M => z) z) :=
  qlp_ind (fun sz : Int32 × Int32 × qa_M => qfr wf_X12_fillsBoth_b2 (sz.2.2) ((fun z : qa_M => z) z)) (fun sz E => fr_X12_fillsBoth_b2 sz.1 sz.2.1 sz.2.2 E) (fun sz sz2 E ih => qfr_tr (fr_X12_fillsBoth_b2 sz.1 sz.2.1 sz.2.2 E) ih) (x1, x2, h) E
def w_X12_fillsBoth : List (Nat × Nat) := [(119, 49), (119, 50), (149, 0), (150, 0), (151, 0), (152, 0), (153, 0), (154, 0), (155, 0), (156, 0), (158, 0), (159, 0)]
theorem fr_X12_fillsBoth (x1 : Int32) (h : qa_M) {z : qa_M} (E : m_X12_fillsBoth x1 h = some z) : qfr w_X12_fillsBoth h ((fun z : qa_M => z) z) := by
  unfold m_X12_fillsBoth at E
  have e_h : qfr w_X12_fillsBoth h h := qfr_rf
  obtain ⟨v1, -, E⟩ := qbd_el E
  exact qfr_tr e_h (qfr_sub (qsub_c (List.mem_of_getElem? (i := 0) rfl) (qsub_c (List.mem_of_getElem? (i := 1) rfl) (qsub_c (List.mem_of_getElem? (i := 2) rfl) (qsub_c (List.mem_of_getElem? (i := 3) rfl) (qsub_c (List.mem_of_getElem? (i := 4) rfl) (qsub_c (List.mem_of_getElem? (i := 5) rfl) (qsub_c (List.mem_of_getElem? (i := 6) rfl) (qsub_c (List.mem_of_getElem? (i := 7) rfl) (qsub_c (List.mem_of_getElem? (i := 8) rfl) (qsub_c (List.mem_of_getElem? (i := 9) rfl) (qsub_c (List.mem_of_getElem? (i := 10) rfl) (qsub_c (List.mem_of_getElem? (i := 11) rfl) qsub_nil)))))))))))) (fr_X12_fillsBoth_b2_loop x1 v1 h E))
theorem fr_X12_worstOf_b42 (x1 : Int32) (x3 : Int32) (s0 : Int32) (h : qa_M) {z : ((Int32 × Int32 × Int32 × qa_M) ⊕ (Int32 × qa_M))} (E : f_X12_worstOf_b42 x1 x3 s0 h = some z) : qfr wz h ((Sum.elim (fun z : Int32 × Int32 × Int32 × qa_M => z.2.2.2) (fun z : Int32 × qa_M => z.2)) z) := by
  unfold f_X12_worstOf_b42 at E
  have e_h : qfr wz h h := qfr_rf
  obtain ⟨v42, -, E⟩ := qbd_el E
  obtain ⟨v43, -, E⟩ := qbd_el E
  exact qsome_f (Q := fun z => qfr wz h ((Sum.elim (fun z : Int32 × Int32 × Int32 × qa_M => z.2.2.2) (fun z : Int32 × qa_M => z.2)) z)) E e_h
theorem fr_X12_worstOf_b4 (x1 : Int32) (x2 : Int32) (x3 : Int32) (h : qa_M) {z : ((Int32 × Int32 × Int32 × qa_M) ⊕ (Int32 × qa_M))} (E : f_X12_worstOf_b4 x1 x2 x3 h = some z) : qfr wz h ((Sum.elim (fun z : Int32 × Int32 × Int32 × qa_M => z.2.2.2) (fun z : Int32 × qa_M => z.2)) z) := by
  unfold f_X12_worstOf_b4 at E
  have e_h : qfr wz h h := qfr_rf
  rcases qif_el E with E | E
  · refine qup_f (Q := fun z => qfr wz h ((Sum.elim (fun z : Int32 × Int32 × Int32 × qa_M => z.2.2.2) (fun z : Int32 × qa_M => z.2)) z)) E (fun rz E => ?_)
    exact qsome_f (Q := fun z => qfr wz h ((fun z : Int32 × qa_M => z.2) z)) E e_h
  · obtain ⟨c18, h18, E0, E⟩ := qbn_el E
    have e_h18 := qfr_tr e_h (qfr_sub qsub_nil (fr_X12_cell x1 x3 x1 x3 h E0))
    obtain ⟨-, E⟩ := qck_el E
    rcases qif_el E with E | E
    · exact qfr_tr e_h18 (qfr_sub qsub_nil (fr_X12_worstOf_b42 x1 x3 x2 h18 E))
    · obtain ⟨c34, h34, E0, E⟩ := qbn_el E
      have e_h34 := qfr_tr e_h18 (qfr_sub qsub_nil (fr_X12_cell x1 x3 x1 x3 h18 E0))
      obtain ⟨-, E⟩ := qck_el E
      exact qfr_tr e_h34 (qfr_sub qsub_nil (fr_X12_worstOf_b42 x1 x3 (h34.1 159 c34.toNatClampNeg) h34 E))
theorem fr_X12_worstOf_b4_loop (x1 : Int32) (x2 : Int32) (x3 : Int32) (h : qa_M) {z : (Int32 × qa_M)} (E : f_X12_worstOf_b4_loop x1 x2 x3 h = some z) : qfr wz h ((fun z : Int32 × qa_M => z.2) z) :=
  qlp_ind (fun sz : Int32 × Int32 × Int32 × qa_M => qfr wz (sz.2.2.2) ((fun z : Int32 × qa_M => z.2) z)) (fun sz E => fr_X12_worstOf_b4 sz.1 sz.2.1 sz.2.2.1 sz.2.2.2 E) (fun sz sz2 E ih => qfr_tr (fr_X12_worstOf_b4 sz.1 sz.2.1 sz.2.2.1 sz.2.2.2 E) ih) (x1, x2, x3, h) E
theorem fr_X12_worstOf (x1 : Int32) (h : qa_M) {z : (Int32 × qa_M)} (E : m_X12_worstOf x1 h = some z) : qfr wz h ((fun z : Int32 × qa_M => z.2) z) := by
  unfold m_X12_worstOf at E
  have e_h : qfr wz h h := qfr_rf
  obtain ⟨v1, -, E⟩ := qbd_el E
  obtain ⟨v3, -, E⟩ := qbd_el E
  exact qfr_tr e_h (qfr_sub qsub_nil (fr_X12_worstOf_b4_loop x1 v1 v3 h E))
def w_X12_worst : List (Nat × Nat) := [(119, 49), (119, 50), (149, 0), (150, 0), (151, 0), (152, 0), (153, 0), (154, 0), (155, 0), (156, 0), (158, 0), (159, 0)]
theorem fr_X12_worst (x1 : Int32) (x2 : Int32) (h : qa_M) {z : (Int32 × qa_M)} (E : m_X12_worst x1 x2 h = some z) : qfr w_X12_worst h ((fun z : Int32 × qa_M => z.2) z) := by
  unfold m_X12_worst at E
  have e_h : qfr w_X12_worst h h := qfr_rf
  obtain ⟨c2, h2, E0, E⟩ := qbn_el E
  have e_h2 := qfr_tr e_h (qfr_sub qsub_nil (fr_X12_isSet x1 h E0))
  rcases qif_el E with E | E
  · exact qsome_f (Q := fun z => qfr w_X12_worst h ((fun z : Int32 × qa_M => z.2) z)) E e_h2
  · obtain ⟨c10, h10, E0, E⟩ := qbn_el E
    have e_h10 := qfr_tr e_h2 (qfr_sub qsub_nil (fr_X12_isHill x2 h2 E0))
    rcases qif_el E with E | E
    · exact qsome_f (Q := fun z => qfr w_X12_worst h ((fun z : Int32 × qa_M => z.2) z)) E e_h10
    · obtain ⟨h20, E0, E⟩ := qbv_el E
      have e_h20 := qfr_tr e_h10 (qfr_sub (qsub_c (List.mem_of_getElem? (i := 0) rfl) (qsub_c (List.mem_of_getElem? (i := 1) rfl) (qsub_c (List.mem_of_getElem? (i := 2) rfl) (qsub_c (List.mem_of_getElem? (i := 3) rfl) (qsub_c (List.mem_of_getElem? (i := 4) rfl) (qsub_c (List.mem_of_getElem? (i := 5) rfl) (qsub_c (List.mem_of_getElem? (i := 6) rfl) (qsub_c (List.mem_of_getElem? (i := 7) rfl) (qsub_c (List.mem_of_getElem? (i := 8) rfl) (qsub_c (List.mem_of_getElem? (i := 9) rfl) (qsub_c (List.mem_of_getElem? (i := 10) rfl) (qsub_c (List.mem_of_getElem? (i := 11) rfl) qsub_nil)))))))))))) (fr_X12_fillsBoth x1 h10 E0))
      obtain ⟨c25, h25, E0, E⟩ := qbn_el E
      have e_h25 := qfr_tr e_h20 (qfr_sub qsub_nil (fr_X12_worstOf x2 h20 E0))
      exact qsome_f (Q := fun z => qfr w_X12_worst h ((fun z : Int32 × qa_M => z.2) z)) E e_h25
theorem fr_X12_next_b85 (x3 : Int32) (h : qa_M) {z : (Int32 × qa_M)} (E : f_X12_next_b85 x3 h = some z) : qfr wz h ((fun z : Int32 × qa_M => z.2) z) := by
  unfold f_X12_next_b85 at E
  have e_h : qfr wz h h := qfr_rf
  exact qsome_f (Q := fun z => qfr wz h ((fun z : Int32 × qa_M => z.2) z)) E e_h
theorem fr_X12_next_b75 (x2 : Int32) (x3 : Int32) (h : qa_M) {z : (Int32 × qa_M)} (E : f_X12_next_b75 x2 x3 h = some z) : qfr wz h ((fun z : Int32 × qa_M => z.2) z) := by
  unfold f_X12_next_b75 at E
  have e_h : qfr wz h h := qfr_rf
  rcases qif_el E with E | E
  · exact qfr_tr e_h (qfr_sub qsub_nil (fr_X12_next_b85 x3 h E))
  · rcases qif_el E with E | E
    · exact qfr_tr e_h (qfr_sub qsub_nil (fr_X12_next_b85 x3 h E))
    · obtain ⟨c91, h91, E0, E⟩ := qbn_el E
      have e_h91 := qfr_tr e_h (qfr_sub qsub_nil (fr_X12_worstOf x3 h E0))
      exact qsome_f (Q := fun z => qfr wz h ((fun z : Int32 × qa_M => z.2) z)) E e_h91
theorem fr_X12_next_b68 (x2 : Int32) (x4 : Int32) (s0 : Int32) (h : qa_M) {z : ((Int32 × Int32 × Int32 × qa_M) ⊕ (Int32 × qa_M))} (E : f_X12_next_b68 x2 x4 s0 h = some z) : qfr wz h ((Sum.elim (fun z : Int32 × Int32 × Int32 × qa_M => z.2.2.2) (fun z : Int32 × qa_M => z.2)) z) := by
  unfold f_X12_next_b68 at E
  have e_h : qfr wz h h := qfr_rf
  obtain ⟨v68, -, E⟩ := qbd_el E
  obtain ⟨v69, -, E⟩ := qbd_el E
  exact qsome_f (Q := fun z => qfr wz h ((Sum.elim (fun z : Int32 × Int32 × Int32 × qa_M => z.2.2.2) (fun z : Int32 × qa_M => z.2)) z)) E e_h
theorem fr_X12_next_b62 (x2 : Int32) (x4 : Int32) (h : qa_M) {z : ((Int32 × Int32 × Int32 × qa_M) ⊕ (Int32 × qa_M))} (E : f_X12_next_b62 x2 x4 h = some z) : qfr wz h ((Sum.elim (fun z : Int32 × Int32 × Int32 × qa_M => z.2.2.2) (fun z : Int32 × qa_M => z.2)) z) := by
  unfold f_X12_next_b62 at E
  have e_h : qfr wz h h := qfr_rf
  exact qfr_tr e_h (qfr_sub qsub_nil (fr_X12_next_b68 x2 x4 x4 h E))
theorem fr_X12_next_b31 (x2 : Int32) (x3 : Int32) (x4 : Int32) (h : qa_M) {z : ((Int32 × Int32 × Int32 × qa_M) ⊕ (Int32 × qa_M))} (E : f_X12_next_b31 x2 x3 x4 h = some z) : qfr wz h ((Sum.elim (fun z : Int32 × Int32 × Int32 × qa_M => z.2.2.2) (fun z : Int32 × qa_M => z.2)) z) := by
  unfold f_X12_next_b31 at E
  have e_h : qfr wz h h := qfr_rf
  obtain ⟨-, E⟩ := qck_el E
  rcases qif_el E with E | E
  · refine qup_f (Q := fun z => qfr wz h ((Sum.elim (fun z : Int32 × Int32 × Int32 × qa_M => z.2.2.2) (fun z : Int32 × qa_M => z.2)) z)) E (fun rz E => ?_)
    exact qfr_tr e_h (qfr_sub qsub_nil (fr_X12_next_b75 x2 x3 h E))
  · rcases qif_el E with E | E
    · exact qfr_tr e_h (qfr_sub qsub_nil (fr_X12_next_b62 x2 x4 h E))
    · obtain ⟨c51, h51, E0, E⟩ := qbn_el E
      have e_h51 := qfr_tr e_h (qfr_sub qsub_nil (fr_X12_worstOf x4 h E0))
      obtain ⟨c56, h56, E0, E⟩ := qbn_el E
      have e_h56 := qfr_tr e_h51 (qfr_sub qsub_nil (fr_X12_worstOf x3 h51 E0))
      rcases qif_el E with E | E
      · exact qfr_tr e_h56 (qfr_sub qsub_nil (fr_X12_next_b68 x2 x4 x3 h56 E))
      · exact qfr_tr e_h56 (qfr_sub qsub_nil (fr_X12_next_b62 x2 x4 h56 E))
theorem fr_X12_next_b31_loop (x2 : Int32) (x3 : Int32) (x4 : Int32) (h : qa_M) {z : (Int32 × qa_M)} (E : f_X12_next_b31_loop x2 x3 x4 h = some z) : qfr wz h ((fun z : Int32 × qa_M => z.2) z) :=
  qlp_ind (fun sz : Int32 × Int32 × Int32 × qa_M => qfr wz (sz.2.2.2) ((fun z : Int32 × qa_M => z.2) z)) (fun sz E => fr_X12_next_b31 sz.1 sz.2.1 sz.2.2.1 sz.2.2.2 E) (fun sz sz2 E ih => qfr_tr (fr_X12_next_b31 sz.1 sz.2.1 sz.2.2.1 sz.2.2.2 E) ih) (x2, x3, x4, h) E
def w_X12_next : List (Nat × Nat) := [(119, 49), (119, 50), (149, 0), (150, 0), (151, 0), (152, 0), (153, 0), (154, 0), (155, 0), (156, 0), (158, 0), (159, 0)]
theorem fr_X12_next (x1 : Int32) (x2 : Int32) (h : qa_M) {z : (Int32 × qa_M)} (E : m_X12_next x1 x2 h = some z) : qfr w_X12_next h ((fun z : Int32 × qa_M => z.2) z) := by
  unfold m_X12_next at E
  have e_h : qfr w_X12_next h h := qfr_rf
  obtain ⟨c2, h2, E0, E⟩ := qbn_el E
  have e_h2 := qfr_tr e_h (qfr_sub qsub_nil (fr_X12_isSet x1 h E0))
  rcases qif_el E with E | E
  · exact qsome_f (Q := fun z => qfr w_X12_next h ((fun z : Int32 × qa_M => z.2) z)) E e_h2
  · obtain ⟨c12, h12, E0, E⟩ := qbn_el E
    have e_h12 := qfr_tr e_h2 (qfr_sub qsub_nil (fr_X12_in x2.toInt64 (0 : Int64) (1 : Int64) h2 E0))
    rcases qif_el E with E | E
    · exact qsome_f (Q := fun z => qfr w_X12_next h ((fun z : Int32 × qa_M => z.2) z)) E e_h12
    · obtain ⟨h22, E0, E⟩ := qbv_el E
      have e_h22 := qfr_tr e_h12 (qfr_sub (qsub_c (List.mem_of_getElem? (i := 0) rfl) (qsub_c (List.mem_of_getElem? (i := 1) rfl) (qsub_c (List.mem_of_getElem? (i := 2) rfl) (qsub_c (List.mem_of_getElem? (i := 3) rfl) (qsub_c (List.mem_of_getElem? (i := 4) rfl) (qsub_c (List.mem_of_getElem? (i := 5) rfl) (qsub_c (List.mem_of_getElem? (i := 6) rfl) (qsub_c (List.mem_of_getElem? (i := 7) rfl) (qsub_c (List.mem_of_getElem? (i := 8) rfl) (qsub_c (List.mem_of_getElem? (i := 9) rfl) (qsub_c (List.mem_of_getElem? (i := 10) rfl) (qsub_c (List.mem_of_getElem? (i := 11) rfl) qsub_nil)))))))))))) (fr_X12_fillsBoth x1 h12 E0))
      obtain ⟨v27, -, E⟩ := qbd_el E
      obtain ⟨v29, -, E⟩ := qbd_el E
      exact qfr_tr e_h22 (qfr_sub qsub_nil (fr_X12_next_b31_loop x2 v27 v29 h22 E))
theorem fr_X12_worstThen_b49 (x1 : Int32) (x2 : Int32) (x3 : Int32) (x5 : Int32) (s0 : Int32) (h : qa_M) {z : ((Int32 × Int32 × Int32 × Int32 × Int32 × qa_M) ⊕ (Int32 × qa_M))} (E : f_X12_worstThen_b49 x1 x2 x3 x5 s0 h = some z) : qfr wz h ((Sum.elim (fun z : Int32 × Int32 × Int32 × Int32 × Int32 × qa_M => z.2.2.2.2.2) (fun z : Int32 × qa_M => z.2)) z) := by
  unfold f_X12_worstThen_b49 at E
  have e_h : qfr wz h h := qfr_rf
  obtain ⟨v49, -, E⟩ := qbd_el E
  obtain ⟨v51, -, E⟩ := qbd_el E
  exact qsome_f (Q := fun z => qfr wz h ((Sum.elim (fun z : Int32 × Int32 × Int32 × Int32 × Int32 × qa_M => z.2.2.2.2.2) (fun z : Int32 × qa_M => z.2)) z)) E e_h
theorem fr_X12_worstThen_b6 (x1 : Int32) (x2 : Int32) (x3 : Int32) (x4 : Int32) (x5 : Int32) (h : qa_M) {z : ((Int32 × Int32 × Int32 × Int32 × Int32 × qa_M) ⊕ (Int32 × qa_M))} (E : f_X12_worstThen_b6 x1 x2 x3 x4 x5 h = some z) : qfr wz h ((Sum.elim (fun z : Int32 × Int32 × Int32 × Int32 × Int32 × qa_M => z.2.2.2.2.2) (fun z : Int32 × qa_M => z.2)) z) := by
  unfold f_X12_worstThen_b6 at E
  have e_h : qfr wz h h := qfr_rf
  rcases qif_el E with E | E
  · refine qup_f (Q := fun z => qfr wz h ((Sum.elim (fun z : Int32 × Int32 × Int32 × Int32 × Int32 × qa_M => z.2.2.2.2.2) (fun z : Int32 × qa_M => z.2)) z)) E (fun rz E => ?_)
    exact qsome_f (Q := fun z => qfr wz h ((fun z : Int32 × qa_M => z.2) z)) E e_h
  · obtain ⟨c22, h22, E0, E⟩ := qbn_el E
    have e_h22 := qfr_tr e_h (qfr_sub qsub_nil (fr_X12_cell x1 x2 x3 x5 h E0))
    obtain ⟨-, E⟩ := qck_el E
    rcases qif_el E with E | E
    · exact qfr_tr e_h22 (qfr_sub qsub_nil (fr_X12_worstThen_b49 x1 x2 x3 x5 x4 h22 E))
    · obtain ⟨c40, h40, E0, E⟩ := qbn_el E
      have e_h40 := qfr_tr e_h22 (qfr_sub qsub_nil (fr_X12_cell x1 x2 x3 x5 h22 E0))
      obtain ⟨-, E⟩ := qck_el E
      exact qfr_tr e_h40 (qfr_sub qsub_nil (fr_X12_worstThen_b49 x1 x2 x3 x5 (h40.1 159 c40.toNatClampNeg) h40 E))
theorem fr_X12_worstThen_b6_loop (x1 : Int32) (x2 : Int32) (x3 : Int32) (x4 : Int32) (x5 : Int32) (h : qa_M) {z : (Int32 × qa_M)} (E : f_X12_worstThen_b6_loop x1 x2 x3 x4 x5 h = some z) : qfr wz h ((fun z : Int32 × qa_M => z.2) z) :=
  qlp_ind (fun sz : Int32 × Int32 × Int32 × Int32 × Int32 × qa_M => qfr wz (sz.2.2.2.2.2) ((fun z : Int32 × qa_M => z.2) z)) (fun sz E => fr_X12_worstThen_b6 sz.1 sz.2.1 sz.2.2.1 sz.2.2.2.1 sz.2.2.2.2.1 sz.2.2.2.2.2 E) (fun sz sz2 E ih => qfr_tr (fr_X12_worstThen_b6 sz.1 sz.2.1 sz.2.2.1 sz.2.2.2.1 sz.2.2.2.2.1 sz.2.2.2.2.2 E) ih) (x1, x2, x3, x4, x5, h) E
theorem fr_X12_worstThen (x1 : Int32) (x2 : Int32) (x3 : Int32) (h : qa_M) {z : (Int32 × qa_M)} (E : m_X12_worstThen x1 x2 x3 h = some z) : qfr wz h ((fun z : Int32 × qa_M => z.2) z) := by
  unfold m_X12_worstThen at E
  have e_h : qfr wz h h := qfr_rf
  obtain ⟨v1, -, E⟩ := qbd_el E
  obtain ⟨v4, -, E⟩ := qbd_el E
  exact qfr_tr e_h (qfr_sub qsub_nil (fr_X12_worstThen_b6_loop x1 x2 x3 v1 v4 h E))
theorem fr_X12_thenOf_b73 (x1 : Int32) (x2 : Int32) (x4 : Int32) (s0 : Int32) (h : qa_M) {z : ((Int32 × Int32 × Int32 × Int32 × qa_M) ⊕ (Int32 × qa_M))} (E : f_X12_thenOf_b73 x1 x2 x4 s0 h = some z) : qfr wz h ((Sum.elim (fun z : Int32 × Int32 × Int32 × Int32 × qa_M => z.2.2.2.2) (fun z : Int32 × qa_M => z.2)) z) := by
  unfold f_X12_thenOf_b73 at E
  have e_h : qfr wz h h := qfr_rf
  obtain ⟨v73, -, E⟩ := qbd_el E
  obtain ⟨v74, -, E⟩ := qbd_el E
  exact qsome_f (Q := fun z => qfr wz h ((Sum.elim (fun z : Int32 × Int32 × Int32 × Int32 × qa_M => z.2.2.2.2) (fun z : Int32 × qa_M => z.2)) z)) E e_h
theorem fr_X12_thenOf_b72 (x1 : Int32) (x2 : Int32) (x3 : Int32) (x4 : Int32) (h : qa_M) {z : ((Int32 × Int32 × Int32 × Int32 × qa_M) ⊕ (Int32 × qa_M))} (E : f_X12_thenOf_b72 x1 x2 x3 x4 h = some z) : qfr wz h ((Sum.elim (fun z : Int32 × Int32 × Int32 × Int32 × qa_M => z.2.2.2.2) (fun z : Int32 × qa_M => z.2)) z) := by
  unfold f_X12_thenOf_b72 at E
  have e_h : qfr wz h h := qfr_rf
  exact qfr_tr e_h (qfr_sub qsub_nil (fr_X12_thenOf_b73 x1 x2 x4 x3 h E))
theorem fr_X12_thenOf_b67 (x1 : Int32) (x2 : Int32) (x4 : Int32) (h : qa_M) {z : ((Int32 × Int32 × Int32 × Int32 × qa_M) ⊕ (Int32 × qa_M))} (E : f_X12_thenOf_b67 x1 x2 x4 h = some z) : qfr wz h ((Sum.elim (fun z : Int32 × Int32 × Int32 × Int32 × qa_M => z.2.2.2.2) (fun z : Int32 × qa_M => z.2)) z) := by
  unfold f_X12_thenOf_b67 at E
  have e_h : qfr wz h h := qfr_rf
  exact qfr_tr e_h (qfr_sub qsub_nil (fr_X12_thenOf_b73 x1 x2 x4 x4 h E))
theorem fr_X12_thenOf_b37 (x1 : Int32) (x2 : Int32) (x3 : Int32) (x4 : Int32) (s0 : Int32) (h : qa_M) {z : ((Int32 × Int32 × Int32 × Int32 × qa_M) ⊕ (Int32 × qa_M))} (E : f_X12_thenOf_b37 x1 x2 x3 x4 s0 h = some z) : qfr wz h ((Sum.elim (fun z : Int32 × Int32 × Int32 × Int32 × qa_M => z.2.2.2.2) (fun z : Int32 × qa_M => z.2)) z) := by
  unfold f_X12_thenOf_b37 at E
  have e_h : qfr wz h h := qfr_rf
  obtain ⟨v37, -, E⟩ := qbd_el E
  rcases qif_el E with E | E
  · exact qfr_tr e_h (qfr_sub qsub_nil (fr_X12_thenOf_b72 x1 x2 x3 x4 h E))
  · rcases qif_el E with E | E
    · exact qfr_tr e_h (qfr_sub qsub_nil (fr_X12_thenOf_b67 x1 x2 x4 h E))
    · obtain ⟨c54, h54, E0, E⟩ := qbn_el E
      have e_h54 := qfr_tr e_h (qfr_sub qsub_nil (fr_X12_worstThen x1 x2 x4 h E0))
      obtain ⟨c61, h61, E0, E⟩ := qbn_el E
      have e_h61 := qfr_tr e_h54 (qfr_sub qsub_nil (fr_X12_worstThen x1 x2 x3 h54 E0))
      rcases qif_el E with E | E
      · exact qfr_tr e_h61 (qfr_sub qsub_nil (fr_X12_thenOf_b72 x1 x2 x3 x4 h61 E))
      · exact qfr_tr e_h61 (qfr_sub qsub_nil (fr_X12_thenOf_b67 x1 x2 x4 h61 E))
theorem fr_X12_thenOf_b32 (x1 : Int32) (x2 : Int32) (x3 : Int32) (x4 : Int32) (h : qa_M) {z : ((Int32 × Int32 × Int32 × Int32 × qa_M) ⊕ (Int32 × qa_M))} (E : f_X12_thenOf_b32 x1 x2 x3 x4 h = some z) : qfr wz h ((Sum.elim (fun z : Int32 × Int32 × Int32 × Int32 × qa_M => z.2.2.2.2) (fun z : Int32 × qa_M => z.2)) z) := by
  unfold f_X12_thenOf_b32 at E
  have e_h : qfr wz h h := qfr_rf
  exact qfr_tr e_h (qfr_sub qsub_nil (fr_X12_thenOf_b37 x1 x2 x3 x4 (1 : Int32) h E))
theorem fr_X12_thenOf_b5 (x1 : Int32) (x2 : Int32) (x3 : Int32) (x4 : Int32) (h : qa_M) {z : ((Int32 × Int32 × Int32 × Int32 × qa_M) ⊕ (Int32 × qa_M))} (E : f_X12_thenOf_b5 x1 x2 x3 x4 h = some z) : qfr wz h ((Sum.elim (fun z : Int32 × Int32 × Int32 × Int32 × qa_M => z.2.2.2.2) (fun z : Int32 × qa_M => z.2)) z) := by
  unfold f_X12_thenOf_b5 at E
  have e_h : qfr wz h h := qfr_rf
  obtain ⟨-, E⟩ := qck_el E
  rcases qif_el E with E | E
  · refine qup_f (Q := fun z => qfr wz h ((Sum.elim (fun z : Int32 × Int32 × Int32 × Int32 × qa_M => z.2.2.2.2) (fun z : Int32 × qa_M => z.2)) z)) E (fun rz E => ?_)
    exact qsome_f (Q := fun z => qfr wz h ((fun z : Int32 × qa_M => z.2) z)) E e_h
  · rcases qif_el E with E | E
    · obtain ⟨-, E⟩ := qck_el E
      rcases qif_el E with E | E
      · exact qfr_tr e_h (qfr_sub qsub_nil (fr_X12_thenOf_b32 x1 x2 x3 x4 h E))
      · exact qfr_tr e_h (qfr_sub qsub_nil (fr_X12_thenOf_b37 x1 x2 x3 x4 (0 : Int32) h E))
    · exact qfr_tr e_h (qfr_sub qsub_nil (fr_X12_thenOf_b32 x1 x2 x3 x4 h E))
theorem fr_X12_thenOf_b5_loop (x1 : Int32) (x2 : Int32) (x3 : Int32) (x4 : Int32) (h : qa_M) {z : (Int32 × qa_M)} (E : f_X12_thenOf_b5_loop x1 x2 x3 x4 h = some z) : qfr wz h ((fun z : Int32 × qa_M => z.2) z) :=
  qlp_ind (fun sz : Int32 × Int32 × Int32 × Int32 × qa_M => qfr wz (sz.2.2.2.2) ((fun z : Int32 × qa_M => z.2) z)) (fun sz E => fr_X12_thenOf_b5 sz.1 sz.2.1 sz.2.2.1 sz.2.2.2.1 sz.2.2.2.2 E) (fun sz sz2 E ih => qfr_tr (fr_X12_thenOf_b5 sz.1 sz.2.1 sz.2.2.1 sz.2.2.2.1 sz.2.2.2.2 E) ih) (x1, x2, x3, x4, h) E
theorem fr_X12_thenOf (x1 : Int32) (x2 : Int32) (h : qa_M) {z : (Int32 × qa_M)} (E : m_X12_thenOf x1 x2 h = some z) : qfr wz h ((fun z : Int32 × qa_M => z.2) z) := by
  unfold m_X12_thenOf at E
  have e_h : qfr wz h h := qfr_rf
  obtain ⟨v1, -, E⟩ := qbd_el E
  obtain ⟨v3, -, E⟩ := qbd_el E
  exact qfr_tr e_h (qfr_sub qsub_nil (fr_X12_thenOf_b5_loop x1 x2 v1 v3 h E))
def w_X12_then : List (Nat × Nat) := [(119, 49), (119, 50), (149, 0), (150, 0), (151, 0), (152, 0), (153, 0), (154, 0), (155, 0), (156, 0), (158, 0), (159, 0)]
theorem fr_X12_then (x1 : Int32) (x2 : Int32) (x3 : Int32) (x4 : Int32) (h : qa_M) {z : (Int32 × qa_M)} (E : m_X12_then x1 x2 x3 x4 h = some z) : qfr w_X12_then h ((fun z : Int32 × qa_M => z.2) z) := by
  unfold m_X12_then at E
  have e_h : qfr w_X12_then h h := qfr_rf
  obtain ⟨c2, h2, E0, E⟩ := qbn_el E
  have e_h2 := qfr_tr e_h (qfr_sub qsub_nil (fr_X12_isSet x1 h E0))
  rcases qif_el E with E | E
  · exact qsome_f (Q := fun z => qfr w_X12_then h ((fun z : Int32 × qa_M => z.2) z)) E e_h2
  · obtain ⟨c10, h10, E0, E⟩ := qbn_el E
    have e_h10 := qfr_tr e_h2 (qfr_sub qsub_nil (fr_X12_isHill x2 h2 E0))
    rcases qif_el E with E | E
    · exact qsome_f (Q := fun z => qfr w_X12_then h ((fun z : Int32 × qa_M => z.2) z)) E e_h10
    · obtain ⟨-, E⟩ := qck_el E
      obtain ⟨c30, h30, E0, E⟩ := qbn_el E
      have e_h30 := qfr_tr e_h10 (qfr_sub qsub_nil (fr_X12_in x3.toInt64 (0 : Int64) ((((1 : Int32) <<< ((h10.1 120 (4 : Int32).toNatClampNeg) &&& 31)) - (1 : Int32)).toInt64) h10 E0))
      rcases qif_el E with E | E
      · exact qsome_f (Q := fun z => qfr w_X12_then h ((fun z : Int32 × qa_M => z.2) z)) E e_h30
      · obtain ⟨c41, h41, E0, E⟩ := qbn_el E
        have e_h41 := qfr_tr e_h30 (qfr_sub qsub_nil (fr_X12_in x4.toInt64 (0 : Int64) (1 : Int64) h30 E0))
        rcases qif_el E with E | E
        · exact qsome_f (Q := fun z => qfr w_X12_then h ((fun z : Int32 × qa_M => z.2) z)) E e_h41
        · obtain ⟨h51, E0, E⟩ := qbv_el E
          have e_h51 := qfr_tr e_h41 (qfr_sub (qsub_c (List.mem_of_getElem? (i := 0) rfl) (qsub_c (List.mem_of_getElem? (i := 1) rfl) (qsub_c (List.mem_of_getElem? (i := 2) rfl) (qsub_c (List.mem_of_getElem? (i := 3) rfl) (qsub_c (List.mem_of_getElem? (i := 4) rfl) (qsub_c (List.mem_of_getElem? (i := 5) rfl) (qsub_c (List.mem_of_getElem? (i := 6) rfl) (qsub_c (List.mem_of_getElem? (i := 7) rfl) (qsub_c (List.mem_of_getElem? (i := 8) rfl) (qsub_c (List.mem_of_getElem? (i := 9) rfl) (qsub_c (List.mem_of_getElem? (i := 10) rfl) (qsub_c (List.mem_of_getElem? (i := 11) rfl) qsub_nil)))))))))))) (fr_X12_fillsBoth x1 h41 E0))
          obtain ⟨c57, h57, E0, E⟩ := qbn_el E
          have e_h57 := qfr_tr e_h51 (qfr_sub qsub_nil (fr_X12_thenOf x2 x3 h51 E0))
          obtain ⟨v60, -, E⟩ := qbd_el E
          rcases qif_el E with E | E
          · exact qsome_f (Q := fun z => qfr w_X12_then h ((fun z : Int32 × qa_M => z.2) z)) E e_h57
          · obtain ⟨c77, h77, E0, E⟩ := qbn_el E
            have e_h77 := qfr_tr e_h57 (qfr_sub qsub_nil (fr_X12_worstThen x2 x3 v60 h57 E0))
            exact qsome_f (Q := fun z => qfr w_X12_then h ((fun z : Int32 × qa_M => z.2) z)) E e_h77
theorem fr_X12_planOf_b55 (x1 : Int32) (x3 : Int32) (s0 : Int32) (h : qa_M) {z : ((Int32 × Int32 × Int32 × qa_M) ⊕ (Int32 × qa_M))} (E : f_X12_planOf_b55 x1 x3 s0 h = some z) : qfr wz h ((Sum.elim (fun z : Int32 × Int32 × Int32 × qa_M => z.2.2.2) (fun z : Int32 × qa_M => z.2)) z) := by
  unfold f_X12_planOf_b55 at E
  have e_h : qfr wz h h := qfr_rf
  obtain ⟨v55, -, E⟩ := qbd_el E
  obtain ⟨v56, -, E⟩ := qbd_el E
  exact qsome_f (Q := fun z => qfr wz h ((Sum.elim (fun z : Int32 × Int32 × Int32 × qa_M => z.2.2.2) (fun z : Int32 × qa_M => z.2)) z)) E e_h
theorem fr_X12_planOf_b41 (x1 : Int32) (x2 : Int32) (x3 : Int32) (s0 : Int32) (h : qa_M) {z : ((Int32 × Int32 × Int32 × qa_M) ⊕ (Int32 × qa_M))} (E : f_X12_planOf_b41 x1 x2 x3 s0 h = some z) : qfr wz h ((Sum.elim (fun z : Int32 × Int32 × Int32 × qa_M => z.2.2.2) (fun z : Int32 × qa_M => z.2)) z) := by
  unfold f_X12_planOf_b41 at E
  have e_h : qfr wz h h := qfr_rf
  obtain ⟨v41, -, E⟩ := qbd_el E
  rcases qif_el E with E | E
  · exact qfr_tr e_h (qfr_sub qsub_nil (fr_X12_planOf_b55 x1 x3 x2 h E))
  · exact qfr_tr e_h (qfr_sub qsub_nil (fr_X12_planOf_b55 x1 x3 v41 h E))
theorem fr_X12_planOf_b4 (x1 : Int32) (x2 : Int32) (x3 : Int32) (h : qa_M) {z : ((Int32 × Int32 × Int32 × qa_M) ⊕ (Int32 × qa_M))} (E : f_X12_planOf_b4 x1 x2 x3 h = some z) : qfr wz h ((Sum.elim (fun z : Int32 × Int32 × Int32 × qa_M => z.2.2.2) (fun z : Int32 × qa_M => z.2)) z) := by
  unfold f_X12_planOf_b4 at E
  have e_h : qfr wz h h := qfr_rf
  rcases qif_el E with E | E
  · refine qup_f (Q := fun z => qfr wz h ((Sum.elim (fun z : Int32 × Int32 × Int32 × qa_M => z.2.2.2) (fun z : Int32 × qa_M => z.2)) z)) E (fun rz E => ?_)
    exact qsome_f (Q := fun z => qfr wz h ((fun z : Int32 × qa_M => z.2) z)) E e_h
  · obtain ⟨c18, h18, E0, E⟩ := qbn_el E
    have e_h18 := qfr_tr e_h (qfr_sub qsub_nil (fr_X12_cell x1 x3 x1 x3 h E0))
    obtain ⟨-, E⟩ := qck_el E
    rcases qif_el E with E | E
    · exact qfr_tr e_h18 (qfr_sub qsub_nil (fr_X12_planOf_b41 x1 x2 x3 (0 : Int32) h18 E))
    · obtain ⟨c31, h31, E0, E⟩ := qbn_el E
      have e_h31 := qfr_tr e_h18 (qfr_sub qsub_nil (fr_X12_thenOf x1 x3 h18 E0))
      obtain ⟨c34, h34, E0, E⟩ := qbn_el E
      have e_h34 := qfr_tr e_h31 (qfr_sub qsub_nil (fr_X12_worstThen x1 x3 c31 h31 E0))
      exact qfr_tr e_h34 (qfr_sub qsub_nil (fr_X12_planOf_b41 x1 x2 x3 c34 h34 E))
theorem fr_X12_planOf_b4_loop (x1 : Int32) (x2 : Int32) (x3 : Int32) (h : qa_M) {z : (Int32 × qa_M)} (E : f_X12_planOf_b4_loop x1 x2 x3 h = some z) : qfr wz h ((fun z : Int32 × qa_M => z.2) z) :=
  qlp_ind (fun sz : Int32 × Int32 × Int32 × qa_M => qfr wz (sz.2.2.2) ((fun z : Int32 × qa_M => z.2) z)) (fun sz E => fr_X12_planOf_b4 sz.1 sz.2.1 sz.2.2.1 sz.2.2.2 E) (fun sz sz2 E ih => qfr_tr (fr_X12_planOf_b4 sz.1 sz.2.1 sz.2.2.1 sz.2.2.2 E) ih) (x1, x2, x3, h) E
theorem fr_X12_planOf (x1 : Int32) (h : qa_M) {z : (Int32 × qa_M)} (E : m_X12_planOf x1 h = some z) : qfr wz h ((fun z : Int32 × qa_M => z.2) z) := by
  unfold m_X12_planOf at E
  have e_h : qfr wz h h := qfr_rf
  obtain ⟨v1, -, E⟩ := qbd_el E
  obtain ⟨v3, -, E⟩ := qbd_el E
  exact qfr_tr e_h (qfr_sub qsub_nil (fr_X12_planOf_b4_loop x1 v1 v3 h E))
theorem fr_X12_plan_b85 (x3 : Int32) (h : qa_M) {z : (Int32 × qa_M)} (E : f_X12_plan_b85 x3 h = some z) : qfr wz h ((fun z : Int32 × qa_M => z.2) z) := by
  unfold f_X12_plan_b85 at E
  have e_h : qfr wz h h := qfr_rf
  exact qsome_f (Q := fun z => qfr wz h ((fun z : Int32 × qa_M => z.2) z)) E e_h
theorem fr_X12_plan_b75 (x2 : Int32) (x3 : Int32) (h : qa_M) {z : (Int32 × qa_M)} (E : f_X12_plan_b75 x2 x3 h = some z) : qfr wz h ((fun z : Int32 × qa_M => z.2) z) := by
  unfold f_X12_plan_b75 at E
  have e_h : qfr wz h h := qfr_rf
  rcases qif_el E with E | E
  · exact qfr_tr e_h (qfr_sub qsub_nil (fr_X12_plan_b85 x3 h E))
  · rcases qif_el E with E | E
    · exact qfr_tr e_h (qfr_sub qsub_nil (fr_X12_plan_b85 x3 h E))
    · obtain ⟨c91, h91, E0, E⟩ := qbn_el E
      have e_h91 := qfr_tr e_h (qfr_sub qsub_nil (fr_X12_planOf x3 h E0))
      exact qsome_f (Q := fun z => qfr wz h ((fun z : Int32 × qa_M => z.2) z)) E e_h91
theorem fr_X12_plan_b68 (x2 : Int32) (x4 : Int32) (s0 : Int32) (h : qa_M) {z : ((Int32 × Int32 × Int32 × qa_M) ⊕ (Int32 × qa_M))} (E : f_X12_plan_b68 x2 x4 s0 h = some z) : qfr wz h ((Sum.elim (fun z : Int32 × Int32 × Int32 × qa_M => z.2.2.2) (fun z : Int32 × qa_M => z.2)) z) := by
  unfold f_X12_plan_b68 at E
  have e_h : qfr wz h h := qfr_rf
  obtain ⟨v68, -, E⟩ := qbd_el E
  obtain ⟨v69, -, E⟩ := qbd_el E
  exact qsome_f (Q := fun z => qfr wz h ((Sum.elim (fun z : Int32 × Int32 × Int32 × qa_M => z.2.2.2) (fun z : Int32 × qa_M => z.2)) z)) E e_h
theorem fr_X12_plan_b62 (x2 : Int32) (x4 : Int32) (h : qa_M) {z : ((Int32 × Int32 × Int32 × qa_M) ⊕ (Int32 × qa_M))} (E : f_X12_plan_b62 x2 x4 h = some z) : qfr wz h ((Sum.elim (fun z : Int32 × Int32 × Int32 × qa_M => z.2.2.2) (fun z : Int32 × qa_M => z.2)) z) := by
  unfold f_X12_plan_b62 at E
  have e_h : qfr wz h h := qfr_rf
  exact qfr_tr e_h (qfr_sub qsub_nil (fr_X12_plan_b68 x2 x4 x4 h E))
theorem fr_X12_plan_b31 (x2 : Int32) (x3 : Int32) (x4 : Int32) (h : qa_M) {z : ((Int32 × Int32 × Int32 × qa_M) ⊕ (Int32 × qa_M))} (E : f_X12_plan_b31 x2 x3 x4 h = some z) : qfr wz h ((Sum.elim (fun z : Int32 × Int32 × Int32 × qa_M => z.2.2.2) (fun z : Int32 × qa_M => z.2)) z) := by
  unfold f_X12_plan_b31 at E
  have e_h : qfr wz h h := qfr_rf
  obtain ⟨-, E⟩ := qck_el E
  rcases qif_el E with E | E
  · refine qup_f (Q := fun z => qfr wz h ((Sum.elim (fun z : Int32 × Int32 × Int32 × qa_M => z.2.2.2) (fun z : Int32 × qa_M => z.2)) z)) E (fun rz E => ?_)
    exact qfr_tr e_h (qfr_sub qsub_nil (fr_X12_plan_b75 x2 x3 h E))
  · rcases qif_el E with E | E
    · exact qfr_tr e_h (qfr_sub qsub_nil (fr_X12_plan_b62 x2 x4 h E))
    · obtain ⟨c51, h51, E0, E⟩ := qbn_el E
      have e_h51 := qfr_tr e_h (qfr_sub qsub_nil (fr_X12_planOf x4 h E0))
      obtain ⟨c56, h56, E0, E⟩ := qbn_el E
      have e_h56 := qfr_tr e_h51 (qfr_sub qsub_nil (fr_X12_planOf x3 h51 E0))
      rcases qif_el E with E | E
      · exact qfr_tr e_h56 (qfr_sub qsub_nil (fr_X12_plan_b68 x2 x4 x3 h56 E))
      · exact qfr_tr e_h56 (qfr_sub qsub_nil (fr_X12_plan_b62 x2 x4 h56 E))
theorem fr_X12_plan_b31_loop (x2 : Int32) (x3 : Int32) (x4 : Int32) (h : qa_M) {z : (Int32 × qa_M)} (E : f_X12_plan_b31_loop x2 x3 x4 h = some z) : qfr wz h ((fun z : Int32 × qa_M => z.2) z) :=
  qlp_ind (fun sz : Int32 × Int32 × Int32 × qa_M => qfr wz (sz.2.2.2) ((fun z : Int32 × qa_M => z.2) z)) (fun sz E => fr_X12_plan_b31 sz.1 sz.2.1 sz.2.2.1 sz.2.2.2 E) (fun sz sz2 E ih => qfr_tr (fr_X12_plan_b31 sz.1 sz.2.1 sz.2.2.1 sz.2.2.2 E) ih) (x2, x3, x4, h) E
def w_X12_plan : List (Nat × Nat) := [(119, 49), (119, 50), (149, 0), (150, 0), (151, 0), (152, 0), (153, 0), (154, 0), (155, 0), (156, 0), (158, 0), (159, 0)]
theorem fr_X12_plan (x1 : Int32) (x2 : Int32) (h : qa_M) {z : (Int32 × qa_M)} (E : m_X12_plan x1 x2 h = some z) : qfr w_X12_plan h ((fun z : Int32 × qa_M => z.2) z) := by
  unfold m_X12_plan at E
  have e_h : qfr w_X12_plan h h := qfr_rf
  obtain ⟨c2, h2, E0, E⟩ := qbn_el E
  have e_h2 := qfr_tr e_h (qfr_sub qsub_nil (fr_X12_isSet x1 h E0))
  rcases qif_el E with E | E
  · exact qsome_f (Q := fun z => qfr w_X12_plan h ((fun z : Int32 × qa_M => z.2) z)) E e_h2
  · obtain ⟨c12, h12, E0, E⟩ := qbn_el E
    have e_h12 := qfr_tr e_h2 (qfr_sub qsub_nil (fr_X12_in x2.toInt64 (0 : Int64) (1 : Int64) h2 E0))
    rcases qif_el E with E | E
    · exact qsome_f (Q := fun z => qfr w_X12_plan h ((fun z : Int32 × qa_M => z.2) z)) E e_h12
    · obtain ⟨h22, E0, E⟩ := qbv_el E
      have e_h22 := qfr_tr e_h12 (qfr_sub (qsub_c (List.mem_of_getElem? (i := 0) rfl) (qsub_c (List.mem_of_getElem? (i := 1) rfl) (qsub_c (List.mem_of_getElem? (i := 2) rfl) (qsub_c (List.mem_of_getElem? (i := 3) rfl) (qsub_c (List.mem_of_getElem? (i := 4) rfl) (qsub_c (List.mem_of_getElem? (i := 5) rfl) (qsub_c (List.mem_of_getElem? (i := 6) rfl) (qsub_c (List.mem_of_getElem? (i := 7) rfl) (qsub_c (List.mem_of_getElem? (i := 8) rfl) (qsub_c (List.mem_of_getElem? (i := 9) rfl) (qsub_c (List.mem_of_getElem? (i := 10) rfl) (qsub_c (List.mem_of_getElem? (i := 11) rfl) qsub_nil)))))))))))) (fr_X12_fillsBoth x1 h12 E0))
      obtain ⟨v27, -, E⟩ := qbd_el E
      obtain ⟨v29, -, E⟩ := qbd_el E
      exact qfr_tr e_h22 (qfr_sub qsub_nil (fr_X12_plan_b31_loop x2 v27 v29 h22 E))
theorem fr_X12_worstAlone_b40 (x1 : Int32) (x3 : Int32) (s0 : Int32) (h : qa_M) {z : ((Int32 × Int32 × Int32 × qa_M) ⊕ (Int32 × qa_M))} (E : f_X12_worstAlone_b40 x1 x3 s0 h = some z) : qfr wz h ((Sum.elim (fun z : Int32 × Int32 × Int32 × qa_M => z.2.2.2) (fun z : Int32 × qa_M => z.2)) z) := by
  unfold f_X12_worstAlone_b40 at E
  have e_h : qfr wz h h := qfr_rf
  obtain ⟨v40, -, E⟩ := qbd_el E
  obtain ⟨v41, -, E⟩ := qbd_el E
  exact qsome_f (Q := fun z => qfr wz h ((Sum.elim (fun z : Int32 × Int32 × Int32 × qa_M => z.2.2.2) (fun z : Int32 × qa_M => z.2)) z)) E e_h
theorem fr_X12_worstAlone_b4 (x1 : Int32) (x2 : Int32) (x3 : Int32) (h : qa_M) {z : ((Int32 × Int32 × Int32 × qa_M) ⊕ (Int32 × qa_M))} (E : f_X12_worstAlone_b4 x1 x2 x3 h = some z) : qfr wz h ((Sum.elim (fun z : Int32 × Int32 × Int32 × qa_M => z.2.2.2) (fun z : Int32 × qa_M => z.2)) z) := by
  unfold f_X12_worstAlone_b4 at E
  have e_h : qfr wz h h := qfr_rf
  rcases qif_el E with E | E
  · refine qup_f (Q := fun z => qfr wz h ((Sum.elim (fun z : Int32 × Int32 × Int32 × qa_M => z.2.2.2) (fun z : Int32 × qa_M => z.2)) z)) E (fun rz E => ?_)
    exact qsome_f (Q := fun z => qfr wz h ((fun z : Int32 × qa_M => z.2) z)) E e_h
  · obtain ⟨-, E⟩ := qck_el E
    rcases qif_el E with E | E
    · exact qfr_tr e_h (qfr_sub qsub_nil (fr_X12_worstAlone_b40 x1 x3 x2 h E))
    · obtain ⟨-, E⟩ := qck_el E
      exact qfr_tr e_h (qfr_sub qsub_nil (fr_X12_worstAlone_b40 x1 x3 (h.1 160 (((16 : Int32) * x1) + x3).toNatClampNeg) h E))
theorem fr_X12_worstAlone_b4_loop (x1 : Int32) (x2 : Int32) (x3 : Int32) (h : qa_M) {z : (Int32 × qa_M)} (E : f_X12_worstAlone_b4_loop x1 x2 x3 h = some z) : qfr wz h ((fun z : Int32 × qa_M => z.2) z) :=
  qlp_ind (fun sz : Int32 × Int32 × Int32 × qa_M => qfr wz (sz.2.2.2) ((fun z : Int32 × qa_M => z.2) z)) (fun sz E => fr_X12_worstAlone_b4 sz.1 sz.2.1 sz.2.2.1 sz.2.2.2 E) (fun sz sz2 E ih => qfr_tr (fr_X12_worstAlone_b4 sz.1 sz.2.1 sz.2.2.1 sz.2.2.2 E) ih) (x1, x2, x3, h) E
theorem fr_X12_worstAlone (x1 : Int32) (h : qa_M) {z : (Int32 × qa_M)} (E : m_X12_worstAlone x1 h = some z) : qfr wz h ((fun z : Int32 × qa_M => z.2) z) := by
  unfold m_X12_worstAlone at E
  have e_h : qfr wz h h := qfr_rf
  obtain ⟨v1, -, E⟩ := qbd_el E
  obtain ⟨v3, -, E⟩ := qbd_el E
  exact qfr_tr e_h (qfr_sub qsub_nil (fr_X12_worstAlone_b4_loop x1 v1 v3 h E))
theorem fr_X12_fresh_b254 (x4 : Int32) (h : qa_M) {z : (Int32 × qa_M)} (E : f_X12_fresh_b254 x4 h = some z) : qfr wz h ((fun z : Int32 × qa_M => z.2) z) := by
  unfold f_X12_fresh_b254 at E
  have e_h : qfr wz h h := qfr_rf
  exact qsome_f (Q := fun z => qfr wz h ((fun z : Int32 × qa_M => z.2) z)) E e_h
theorem fr_X12_fresh_b243 (x3 : Int32) (x4 : Int32) (h : qa_M) {z : (Int32 × qa_M)} (E : f_X12_fresh_b243 x3 x4 h = some z) : qfr wz h ((fun z : Int32 × qa_M => z.2) z) := by
  unfold f_X12_fresh_b243 at E
  have e_h : qfr wz h h := qfr_rf
  rcases qif_el E with E | E
  · exact qfr_tr e_h (qfr_sub qsub_nil (fr_X12_fresh_b254 x4 h E))
  · rcases qif_el E with E | E
    · exact qfr_tr e_h (qfr_sub qsub_nil (fr_X12_fresh_b254 x4 h E))
    · obtain ⟨c262, h262, E0, E⟩ := qbn_el E
      have e_h262 := qfr_tr e_h (qfr_sub qsub_nil (fr_X12_worstAlone x4 h E0))
      exact qsome_f (Q := fun z => qfr wz h ((fun z : Int32 × qa_M => z.2) z)) E e_h262
theorem fr_X12_fresh_b235 (x3 : Int32) (x5 : Int32) (s0 : Int32) (h : qa_M) {z : ((Int32 × Int32 × Int32 × qa_M) ⊕ (Int32 × qa_M))} (E : f_X12_fresh_b235 x3 x5 s0 h = some z) : qfr wz h ((Sum.elim (fun z : Int32 × Int32 × Int32 × qa_M => z.2.2.2) (fun z : Int32 × qa_M => z.2)) z) := by
  unfold f_X12_fresh_b235 at E
  have e_h : qfr wz h h := qfr_rf
  obtain ⟨v235, -, E⟩ := qbd_el E
  obtain ⟨v237, -, E⟩ := qbd_el E
  exact qsome_f (Q := fun z => qfr wz h ((Sum.elim (fun z : Int32 × Int32 × Int32 × qa_M => z.2.2.2) (fun z : Int32 × qa_M => z.2)) z)) E e_h
theorem fr_X12_fresh_b233 (x3 : Int32) (x4 : Int32) (x5 : Int32) (h : qa_M) {z : ((Int32 × Int32 × Int32 × qa_M) ⊕ (Int32 × qa_M))} (E : f_X12_fresh_b233 x3 x4 x5 h = some z) : qfr wz h ((Sum.elim (fun z : Int32 × Int32 × Int32 × qa_M => z.2.2.2) (fun z : Int32 × qa_M => z.2)) z) := by
  unfold f_X12_fresh_b233 at E
  have e_h : qfr wz h h := qfr_rf
  exact qfr_tr e_h (qfr_sub qsub_nil (fr_X12_fresh_b235 x3 x5 x4 h E))
theorem fr_X12_fresh_b228 (x3 : Int32) (x5 : Int32) (h : qa_M) {z : ((Int32 × Int32 × Int32 × qa_M) ⊕ (Int32 × qa_M))} (E : f_X12_fresh_b228 x3 x5 h = some z) : qfr wz h ((Sum.elim (fun z : Int32 × Int32 × Int32 × qa_M => z.2.2.2) (fun z : Int32 × qa_M => z.2)) z) := by
  unfold f_X12_fresh_b228 at E
  have e_h : qfr wz h h := qfr_rf
  exact qfr_tr e_h (qfr_sub qsub_nil (fr_X12_fresh_b235 x3 x5 x5 h E))
theorem fr_X12_fresh_b187 (x3 : Int32) (x4 : Int32) (x5 : Int32) (h : qa_M) {z : ((Int32 × Int32 × Int32 × qa_M) ⊕ (Int32 × qa_M))} (E : f_X12_fresh_b187 x3 x4 x5 h = some z) : qfr wz h ((Sum.elim (fun z : Int32 × Int32 × Int32 × qa_M => z.2.2.2) (fun z : Int32 × qa_M => z.2)) z) := by
  unfold f_X12_fresh_b187 at E
  have e_h : qfr wz h h := qfr_rf
  rcases qif_el E with E | E
  · refine qup_f (Q := fun z => qfr wz h ((Sum.elim (fun z : Int32 × Int32 × Int32 × qa_M => z.2.2.2) (fun z : Int32 × qa_M => z.2)) z)) E (fun rz E => ?_)
    exact qfr_tr e_h (qfr_sub qsub_nil (fr_X12_fresh_b243 x3 x4 h E))
  · obtain ⟨-, E⟩ := qck_el E
    rcases qif_el E with E | E
    · exact qfr_tr e_h (qfr_sub qsub_nil (fr_X12_fresh_b233 x3 x4 x5 h E))
    · rcases qif_el E with E | E
      · exact qfr_tr e_h (qfr_sub qsub_nil (fr_X12_fresh_b228 x3 x5 h E))
      · obtain ⟨c216, h216, E0, E⟩ := qbn_el E
        have e_h216 := qfr_tr e_h (qfr_sub qsub_nil (fr_X12_worstAlone x5 h E0))
        obtain ⟨c222, h222, E0, E⟩ := qbn_el E
        have e_h222 := qfr_tr e_h216 (qfr_sub qsub_nil (fr_X12_worstAlone x4 h216 E0))
        rcases qif_el E with E | E
        · exact qfr_tr e_h222 (qfr_sub qsub_nil (fr_X12_fresh_b233 x3 x4 x5 h222 E))
        · exact qfr_tr e_h222 (qfr_sub qsub_nil (fr_X12_fresh_b228 x3 x5 h222 E))
theorem fr_X12_fresh_b187_loop (x3 : Int32) (x4 : Int32) (x5 : Int32) (h : qa_M) {z : (Int32 × qa_M)} (E : f_X12_fresh_b187_loop x3 x4 x5 h = some z) : qfr wz h ((fun z : Int32 × qa_M => z.2) z) :=
  qlp_ind (fun sz : Int32 × Int32 × Int32 × qa_M => qfr wz (sz.2.2.2) ((fun z : Int32 × qa_M => z.2) z)) (fun sz E => fr_X12_fresh_b187 sz.1 sz.2.1 sz.2.2.1 sz.2.2.2 E) (fun sz sz2 E ih => qfr_tr (fr_X12_fresh_b187 sz.1 sz.2.1 sz.2.2.1 sz.2.2.2 E) ih) (x3, x4, x5, h) E
theorem fr_X12_fresh_b180 (x3 : Int32) (h : qa_M) {z : (Int32 × qa_M)} (E : f_X12_fresh_b180 x3 h = some z) : qfr wz h ((fun z : Int32 × qa_M => z.2) z) := by
  unfold f_X12_fresh_b180 at E
  have e_h : qfr wz h h := qfr_rf
  obtain ⟨v182, -, E⟩ := qbd_el E
  obtain ⟨v185, -, E⟩ := qbd_el E
  exact qfr_tr e_h (qfr_sub qsub_nil (fr_X12_fresh_b187_loop x3 v182 v185 h E))
theorem fr_X12_fresh_b177 (x1 : Int32) (x3 : Int32) (h : qa_M) {z : ((Int32 × Int32 × qa_M) ⊕ (Int32 × qa_M))} (E : f_X12_fresh_b177 x1 x3 h = some z) : qfr wz h ((Sum.elim (fun z : Int32 × Int32 × qa_M => z.2.2) (fun z : Int32 × qa_M => z.2)) z) := by
  unfold f_X12_fresh_b177 at E
  have e_h : qfr wz h h := qfr_rf
  exact qsome_f (Q := fun z => qfr wz h ((Sum.elim (fun z : Int32 × Int32 × qa_M => z.2.2) (fun z : Int32 × qa_M => z.2)) z)) E e_h
theorem fr_X12_fresh_b171 (x1 : Int32) (x3 : Int32) (x4 : Int32) (h : qa_M) {z : ((Int32 × Int32 × Int32 × qa_M) ⊕ ((Int32 × Int32 × qa_M) ⊕ (Int32 × qa_M)))} (E : f_X12_fresh_b171 x1 x3 x4 h = some z) : qfr wz h ((Sum.elim (fun z : Int32 × Int32 × Int32 × qa_M => z.2.2.2) (Sum.elim (fun z : Int32 × Int32 × qa_M => z.2.2) (fun z : Int32 × qa_M => z.2))) z) := by
  unfold f_X12_fresh_b171 at E
  have e_h : qfr wz h h := qfr_rf
  obtain ⟨v171, -, E⟩ := qbd_el E
  exact qsome_f (Q := fun z => qfr wz h ((Sum.elim (fun z : Int32 × Int32 × Int32 × qa_M => z.2.2.2) (Sum.elim (fun z : Int32 × Int32 × qa_M => z.2.2) (fun z : Int32 × qa_M => z.2))) z)) E e_h
def wf_X12_fresh_b126 : List (Nat × Nat) := [(160, 0)]
theorem fr_X12_fresh_b126 (x1 : Int32) (x3 : Int32) (x4 : Int32) (h : qa_M) {z : ((Int32 × Int32 × Int32 × qa_M) ⊕ ((Int32 × Int32 × qa_M) ⊕ (Int32 × qa_M)))} (E : f_X12_fresh_b126 x1 x3 x4 h = some z) : qfr wf_X12_fresh_b126 h ((Sum.elim (fun z : Int32 × Int32 × Int32 × qa_M => z.2.2.2) (Sum.elim (fun z : Int32 × Int32 × qa_M => z.2.2) (fun z : Int32 × qa_M => z.2))) z) := by
  unfold f_X12_fresh_b126 at E
  have e_h : qfr wf_X12_fresh_b126 h h := qfr_rf
  rcases qif_el E with E | E
  · refine qup_f (Q := fun z => qfr wf_X12_fresh_b126 h ((Sum.elim (fun z : Int32 × Int32 × Int32 × qa_M => z.2.2.2) (Sum.elim (fun z : Int32 × Int32 × qa_M => z.2.2) (fun z : Int32 × qa_M => z.2))) z)) E (fun rz E => ?_)
    exact qfr_tr e_h (qfr_sub qsub_nil (fr_X12_fresh_b177 x1 x3 h E))
  · obtain ⟨-, E⟩ := qck_el E
    rcases qif_el E with E | E
    · exact qfr_tr e_h (qfr_sub qsub_nil (fr_X12_fresh_b171 x1 x3 x4 h E))
    · obtain ⟨-, E⟩ := qck_el E
      obtain ⟨c162, h162, E0, E⟩ := qbn_el E
      have e_h162 := qfr_tr e_h (qfr_sub qsub_nil (fr_X12_noneSeen (h.2.1 156 x4.toNatClampNeg) h E0))
      obtain ⟨-, E⟩ := qck_el E
      obtain ⟨-, E⟩ := qck_el E
      obtain ⟨h170, q_h170, E⟩ := qbd_el E
      have e_h170 := qfr_I0 q_h170 (List.mem_of_getElem? (i := 0) rfl) e_h162
      exact qfr_tr e_h170 (qfr_sub qsub_nil (fr_X12_fresh_b171 x1 x3 x4 h170 E))
theorem fr_X12_fresh_b126_loop (x1 : Int32) (x3 : Int32) (x4 : Int32) (h : qa_M) {z : ((Int32 × Int32 × qa_M) ⊕ (Int32 × qa_M))} (E : f_X12_fresh_b126_loop x1 x3 x4 h = some z) : qfr wf_X12_fresh_b126 h ((Sum.elim (fun z : Int32 × Int32 × qa_M => z.2.2) (fun z : Int32 × qa_M => z.2)) z) :=
  qlp_ind (fun sz : Int32 × Int32 × Int32 × qa_M => qfr wf_X12_fresh_b126 (sz.2.2.2) ((Sum.elim (fun z : Int32 × Int32 × qa_M => z.2.2) (fun z : Int32 × qa_M => z.2)) z)) (fun sz E => fr_X12_fresh_b126 sz.1 sz.2.1 sz.2.2.1 sz.2.2.2 E) (fun sz sz2 E ih => qfr_tr (fr_X12_fresh_b126 sz.1 sz.2.1 sz.2.2.1 sz.2.2.2 E) ih) (x1, x3, x4, h) E
def wf_X12_fresh_b115 : List (Nat × Nat) := [(119, 50), (151, 0), (160, 0)]
theorem fr_X12_fresh_b115 (x1 : Int32) (x3 : Int32) (h : qa_M) {z : ((Int32 × Int32 × qa_M) ⊕ (Int32 × qa_M))} (E : f_X12_fresh_b115 x1 x3 h = some z) : qfr wf_X12_fresh_b115 h ((Sum.elim (fun z : Int32 × Int32 × qa_M => z.2.2) (fun z : Int32 × qa_M => z.2)) z) := by
  unfold f_X12_fresh_b115 at E
  have e_h : qfr wf_X12_fresh_b115 h h := qfr_rf
  obtain ⟨c117, h117, E0, E⟩ := qbn_el E
  have e_h117 := qfr_tr e_h (qfr_sub (qsub_c (List.mem_of_getElem? (i := 0) rfl) (qsub_c (List.mem_of_getElem? (i := 1) rfl) qsub_nil)) (fr_X12_goesTo x1 h E0))
  rcases qif_el E with E | E
  · refine qup_f (Q := fun z => qfr wf_X12_fresh_b115 h ((Sum.elim (fun z : Int32 × Int32 × qa_M => z.2.2) (fun z : Int32 × qa_M => z.2)) z)) E (fun rz E => ?_)
    exact qfr_tr e_h117 (qfr_sub qsub_nil (fr_X12_fresh_b180 x3 h117 E))
  · obtain ⟨v124, -, E⟩ := qbd_el E
    exact qfr_tr e_h117 (qfr_sub (qsub_c (List.mem_of_getElem? (i := 2) rfl) qsub_nil) (fr_X12_fresh_b126_loop x1 x3 v124 h117 E))
theorem fr_X12_fresh_b115_loop (x1 : Int32) (x3 : Int32) (h : qa_M) {z : (Int32 × qa_M)} (E : f_X12_fresh_b115_loop x1 x3 h = some z) : qfr wf_X12_fresh_b115 h ((fun z : Int32 × qa_M => z.2) z) :=
  qlp_ind (fun sz : Int32 × Int32 × qa_M => qfr wf_X12_fresh_b115 (sz.2.2) ((fun z : Int32 × qa_M => z.2) z)) (fun sz E => fr_X12_fresh_b115 sz.1 sz.2.1 sz.2.2 E) (fun sz sz2 E ih => qfr_tr (fr_X12_fresh_b115 sz.1 sz.2.1 sz.2.2 E) ih) (x1, x3, h) E
def wf_X12_fresh_b108 : List (Nat × Nat) := [(156, 0)]
theorem fr_X12_fresh_b108 (x1 : Int32) (x2 : Int32) (x3 : Int32) (x4 : Int32) (s1 : Int32) (s2 : Int64) (h : qa_M) {z : ((Int32 × Int32 × Int32 × Int32 × qa_M) ⊕ (Int32 × qa_M))} (E : f_X12_fresh_b108 x1 x2 x3 x4 s1 s2 h = some z) : qfr wf_X12_fresh_b108 h ((Sum.elim (fun z : Int32 × Int32 × Int32 × Int32 × qa_M => z.2.2.2.2) (fun z : Int32 × qa_M => z.2)) z) := by
  unfold f_X12_fresh_b108 at E
  have e_h : qfr wf_X12_fresh_b108 h h := qfr_rf
  obtain ⟨-, E⟩ := qck_el E
  obtain ⟨h108, q_h108, E⟩ := qbd_el E
  have e_h108 := qfr_J0 q_h108 (List.mem_of_getElem? (i := 0) rfl) e_h
  obtain ⟨v109, -, E⟩ := qbd_el E
  exact qsome_f (Q := fun z => qfr wf_X12_fresh_b108 h ((Sum.elim (fun z : Int32 × Int32 × Int32 × Int32 × qa_M => z.2.2.2.2) (fun z : Int32 × qa_M => z.2)) z)) E e_h108
def wf_X12_fresh_b107 : List (Nat × Nat) := [(156, 0)]
theorem fr_X12_fresh_b107 (x1 : Int32) (x2 : Int32) (x3 : Int32) (x4 : Int32) (s1 : Int32) (h : qa_M) {z : ((Int32 × Int32 × Int32 × Int32 × qa_M) ⊕ (Int32 × qa_M))} (E : f_X12_fresh_b107 x1 x2 x3 x4 s1 h = some z) : qfr wf_X12_fresh_b107 h ((Sum.elim (fun z : Int32 × Int32 × Int32 × Int32 × qa_M => z.2.2.2.2) (fun z : Int32 × qa_M => z.2)) z) := by
  unfold f_X12_fresh_b107 at E
  have e_h : qfr wf_X12_fresh_b107 h h := qfr_rf
  exact qfr_tr e_h (qfr_sub (qsub_c (List.mem_of_getElem? (i := 0) rfl) qsub_nil) (fr_X12_fresh_b108 x1 x2 x3 x4 s1 (0 : Int64) h E))
def wf_X12_fresh_b66 : List (Nat × Nat) := [(119, 50), (151, 0), (156, 0), (160, 0)]
theorem fr_X12_fresh_b66 (x1 : Int32) (x2 : Int32) (x3 : Int32) (x4 : Int32) (h : qa_M) {z : ((Int32 × Int32 × Int32 × Int32 × qa_M) ⊕ (Int32 × qa_M))} (E : f_X12_fresh_b66 x1 x2 x3 x4 h = some z) : qfr wf_X12_fresh_b66 h ((Sum.elim (fun z : Int32 × Int32 × Int32 × Int32 × qa_M => z.2.2.2.2) (fun z : Int32 × qa_M => z.2)) z) := by
  unfold f_X12_fresh_b66 at E
  have e_h : qfr wf_X12_fresh_b66 h h := qfr_rf
  rcases qif_el E with E | E
  · refine qup_f (Q := fun z => qfr wf_X12_fresh_b66 h ((Sum.elim (fun z : Int32 × Int32 × Int32 × Int32 × qa_M => z.2.2.2.2) (fun z : Int32 × qa_M => z.2)) z)) E (fun rz E => ?_)
    exact qfr_tr e_h (qfr_sub (qsub_c (List.mem_of_getElem? (i := 0) rfl) (qsub_c (List.mem_of_getElem? (i := 1) rfl) (qsub_c (List.mem_of_getElem? (i := 3) rfl) qsub_nil))) (fr_X12_fresh_b115_loop x1 x3 h E))
  · obtain ⟨c82, h82, E0, E⟩ := qbn_el E
    have e_h82 := qfr_tr e_h (qfr_sub qsub_nil (fr_X12_isThere x4 h E0))
    rcases qif_el E with E | E
    · exact qfr_tr e_h82 (qfr_sub (qsub_c (List.mem_of_getElem? (i := 2) rfl) qsub_nil) (fr_X12_fresh_b107 x1 x2 x3 x4 x4 h82 E))
    · obtain ⟨c91, h91, E0, E⟩ := qbn_el E
      have e_h91 := qfr_tr e_h82 (qfr_sub qsub_nil (fr_X12_isWood x4 h82 E0))
      rcases qif_el E with E | E
      · obtain ⟨c101, h101, E0, E⟩ := qbn_el E
        have e_h101 := qfr_tr e_h91 (qfr_sub qsub_nil (fr_X12_seenFrom x4 x2 h91 E0))
        exact qfr_tr e_h101 (qfr_sub (qsub_c (List.mem_of_getElem? (i := 2) rfl) qsub_nil) (fr_X12_fresh_b108 x1 x2 x3 x4 x4 c101 h101 E))
      · exact qfr_tr e_h91 (qfr_sub (qsub_c (List.mem_of_getElem? (i := 2) rfl) qsub_nil) (fr_X12_fresh_b107 x1 x2 x3 x4 x4 h91 E))
theorem fr_X12_fresh_b66_loop (x1 : Int32) (x2 : Int32) (x3 : Int32) (x4 : Int32) (h : qa_M) {z : (Int32 × qa_M)} (E : f_X12_fresh_b66_loop x1 x2 x3 x4 h = some z) : qfr wf_X12_fresh_b66 h ((fun z : Int32 × qa_M => z.2) z) :=
  qlp_ind (fun sz : Int32 × Int32 × Int32 × Int32 × qa_M => qfr wf_X12_fresh_b66 (sz.2.2.2.2) ((fun z : Int32 × qa_M => z.2) z)) (fun sz E => fr_X12_fresh_b66 sz.1 sz.2.1 sz.2.2.1 sz.2.2.2.1 sz.2.2.2.2 E) (fun sz sz2 E ih => qfr_tr (fr_X12_fresh_b66 sz.1 sz.2.1 sz.2.2.1 sz.2.2.2.1 sz.2.2.2.2 E) ih) (x1, x2, x3, x4, h) E
def wf_X12_fresh_b59 : List (Nat × Nat) := [(119, 49), (119, 50), (149, 0), (150, 0), (151, 0), (152, 0), (153, 0), (154, 0), (155, 0), (156, 0), (160, 0)]
theorem fr_X12_fresh_b59 (x1 : Int32) (x2 : Int32) (x3 : Int32) (h : qa_M) {z : (Int32 × qa_M)} (E : f_X12_fresh_b59 x1 x2 x3 h = some z) : qfr wf_X12_fresh_b59 h ((fun z : Int32 × qa_M => z.2) z) := by
  unfold f_X12_fresh_b59 at E
  have e_h : qfr wf_X12_fresh_b59 h h := qfr_rf
  obtain ⟨h60, E0, E⟩ := qbv_el E
  have e_h60 := qfr_tr e_h (qfr_sub (qsub_c (List.mem_of_getElem? (i := 0) rfl) (qsub_c (List.mem_of_getElem? (i := 1) rfl) (qsub_c (List.mem_of_getElem? (i := 2) rfl) (qsub_c (List.mem_of_getElem? (i := 3) rfl) (qsub_c (List.mem_of_getElem? (i := 5) rfl) (qsub_c (List.mem_of_getElem? (i := 6) rfl) (qsub_c (List.mem_of_getElem? (i := 7) rfl) (qsub_c (List.mem_of_getElem? (i := 8) rfl) qsub_nil)))))))) (fr_X12_beginsLayings h E0))
  obtain ⟨v64, -, E⟩ := qbd_el E
  exact qfr_tr e_h60 (qfr_sub (qsub_c (List.mem_of_getElem? (i := 1) rfl) (qsub_c (List.mem_of_getElem? (i := 4) rfl) (qsub_c (List.mem_of_getElem? (i := 9) rfl) (qsub_c (List.mem_of_getElem? (i := 10) rfl) qsub_nil)))) (fr_X12_fresh_b66_loop x1 x2 x3 v64 h60 E))
def wf_X12_fresh_b35 : List (Nat × Nat) := [(119, 49), (119, 50), (149, 0), (150, 0), (151, 0), (152, 0), (153, 0), (154, 0), (155, 0), (156, 0), (160, 0)]
theorem fr_X12_fresh_b35 (x1 : Int32) (x2 : Int32) (x3 : Int32) (x4 : Int32) (h : qa_M) {z : ((Int32 × Int32 × Int32 × Int32 × qa_M) ⊕ (Int32 × qa_M))} (E : f_X12_fresh_b35 x1 x2 x3 x4 h = some z) : qfr wf_X12_fresh_b35 h ((Sum.elim (fun z : Int32 × Int32 × Int32 × Int32 × qa_M => z.2.2.2.2) (fun z : Int32 × qa_M => z.2)) z) := by
  unfold f_X12_fresh_b35 at E
  have e_h : qfr wf_X12_fresh_b35 h h := qfr_rf
  rcases qif_el E with E | E
  · refine qup_f (Q := fun z => qfr wf_X12_fresh_b35 h ((Sum.elim (fun z : Int32 × Int32 × Int32 × Int32 × qa_M => z.2.2.2.2) (fun z : Int32 × qa_M => z.2)) z)) E (fun rz E => ?_)
    exact qfr_tr e_h (qfr_sub (qsub_c (List.mem_of_getElem? (i := 0) rfl) (qsub_c (List.mem_of_getElem? (i := 1) rfl) (qsub_c (List.mem_of_getElem? (i := 2) rfl) (qsub_c (List.mem_of_getElem? (i := 3) rfl) (qsub_c (List.mem_of_getElem? (i := 4) rfl) (qsub_c (List.mem_of_getElem? (i := 5) rfl) (qsub_c (List.mem_of_getElem? (i := 6) rfl) (qsub_c (List.mem_of_getElem? (i := 7) rfl) (qsub_c (List.mem_of_getElem? (i := 8) rfl) (qsub_c (List.mem_of_getElem? (i := 9) rfl) (qsub_c (List.mem_of_getElem? (i := 10) rfl) qsub_nil))))))))))) (fr_X12_fresh_b59 x1 x2 x3 h E))
  · obtain ⟨-, E⟩ := qck_el E
    obtain ⟨h52, q_h52, E⟩ := qbd_el E
    have e_h52 := qfr_I0 q_h52 (List.mem_of_getElem? (i := 10) rfl) e_h
    obtain ⟨v53, -, E⟩ := qbd_el E
    exact qsome_f (Q := fun z => qfr wf_X12_fresh_b35 h ((Sum.elim (fun z : Int32 × Int32 × Int32 × Int32 × qa_M => z.2.2.2.2) (fun z : Int32 × qa_M => z.2)) z)) E e_h52
theorem fr_X12_fresh_b35_loop (x1 : Int32) (x2 : Int32) (x3 : Int32) (x4 : Int32) (h : qa_M) {z : (Int32 × qa_M)} (E : f_X12_fresh_b35_loop x1 x2 x3 x4 h = some z) : qfr wf_X12_fresh_b35 h ((fun z : Int32 × qa_M => z.2) z) :=
  qlp_ind (fun sz : Int32 × Int32 × Int32 × Int32 × qa_M => qfr wf_X12_fresh_b35 (sz.2.2.2.2) ((fun z : Int32 × qa_M => z.2) z)) (fun sz E => fr_X12_fresh_b35 sz.1 sz.2.1 sz.2.2.1 sz.2.2.2.1 sz.2.2.2.2 E) (fun sz sz2 E ih => qfr_tr (fr_X12_fresh_b35 sz.1 sz.2.1 sz.2.2.1 sz.2.2.2.1 sz.2.2.2.2 E) ih) (x1, x2, x3, x4, h) E
def w_X12_fresh : List (Nat × Nat) := [(119, 49), (119, 50), (149, 0), (150, 0), (151, 0), (152, 0), (153, 0), (154, 0), (155, 0), (156, 0), (160, 0)]
theorem fr_X12_fresh (x1 : Int32) (x2 : Int32) (x3 : Int32) (h : qa_M) {z : (Int32 × qa_M)} (E : m_X12_fresh x1 x2 x3 h = some z) : qfr w_X12_fresh h ((fun z : Int32 × qa_M => z.2) z) := by
  unfold m_X12_fresh at E
  have e_h : qfr w_X12_fresh h h := qfr_rf
  obtain ⟨c2, h2, E0, E⟩ := qbn_el E
  have e_h2 := qfr_tr e_h (qfr_sub qsub_nil (fr_X12_isSet x1 h E0))
  rcases qif_el E with E | E
  · exact qsome_f (Q := fun z => qfr w_X12_fresh h ((fun z : Int32 × qa_M => z.2) z)) E e_h2
  · obtain ⟨c14, h14, E0, E⟩ := qbn_el E
    have e_h14 := qfr_tr e_h2 (qfr_sub qsub_nil (fr_X12_in x2.toInt64 (1 : Int64) (9 : Int64) h2 E0))
    rcases qif_el E with E | E
    · exact qsome_f (Q := fun z => qfr w_X12_fresh h ((fun z : Int32 × qa_M => z.2) z)) E e_h14
    · obtain ⟨c24, h24, E0, E⟩ := qbn_el E
      have e_h24 := qfr_tr e_h14 (qfr_sub qsub_nil (fr_X12_in x3.toInt64 (0 : Int64) (1 : Int64) h14 E0))
      rcases qif_el E with E | E
      · exact qsome_f (Q := fun z => qfr w_X12_fresh h ((fun z : Int32 × qa_M => z.2) z)) E e_h24
      · obtain ⟨v33, -, E⟩ := qbd_el E
        exact qfr_tr e_h24 (qfr_sub (qsub_c (List.mem_of_getElem? (i := 0) rfl) (qsub_c (List.mem_of_getElem? (i := 1) rfl) (qsub_c (List.mem_of_getElem? (i := 2) rfl) (qsub_c (List.mem_of_getElem? (i := 3) rfl) (qsub_c (List.mem_of_getElem? (i := 4) rfl) (qsub_c (List.mem_of_getElem? (i := 5) rfl) (qsub_c (List.mem_of_getElem? (i := 6) rfl) (qsub_c (List.mem_of_getElem? (i := 7) rfl) (qsub_c (List.mem_of_getElem? (i := 8) rfl) (qsub_c (List.mem_of_getElem? (i := 9) rfl) (qsub_c (List.mem_of_getElem? (i := 10) rfl) qsub_nil))))))))))) (fr_X12_fresh_b35_loop x1 x2 x3 v33 h24 E))
theorem fr_X12_spreads_b139 (x2 : Int32) (x3 : Int32) (h : qa_M) {z : ((Int32 × Int32 × qa_M) ⊕ qa_M)} (E : f_X12_spreads_b139 x2 x3 h = some z) : qfr wz h ((Sum.elim (fun z : Int32 × Int32 × qa_M => z.2.2) (fun z : qa_M => z)) z) := by
  unfold f_X12_spreads_b139 at E
  have e_h : qfr wz h h := qfr_rf
  obtain ⟨v139, -, E⟩ := qbd_el E
  exact qsome_f (Q := fun z => qfr wz h ((Sum.elim (fun z : Int32 × Int32 × qa_M => z.2.2) (fun z : qa_M => z)) z)) E e_h
theorem fr_X12_spreads_b133 (x2 : Int32) (x3 : Int32) (x4 : Int32) (h : qa_M) {z : ((Int32 × Int32 × Int32 × qa_M) ⊕ ((Int32 × Int32 × qa_M) ⊕ qa_M))} (E : f_X12_spreads_b133 x2 x3 x4 h = some z) : qfr wz h ((Sum.elim (fun z : Int32 × Int32 × Int32 × qa_M => z.2.2.2) (Sum.elim (fun z : Int32 × Int32 × qa_M => z.2.2) (fun z : qa_M => z))) z) := by
  unfold f_X12_spreads_b133 at E
  have e_h : qfr wz h h := qfr_rf
  obtain ⟨v133, -, E⟩ := qbd_el E
  exact qsome_f (Q := fun z => qfr wz h ((Sum.elim (fun z : Int32 × Int32 × Int32 × qa_M => z.2.2.2) (Sum.elim (fun z : Int32 × Int32 × qa_M => z.2.2) (fun z : qa_M => z))) z)) E e_h
def wf_X12_spreads_b49 : List (Nat × Nat) := [(161, 0), (162, 0)]
theorem fr_X12_spreads_b49 (x2 : Int32) (x3 : Int32) (x4 : Int32) (h : qa_M) {z : ((Int32 × Int32 × Int32 × qa_M) ⊕ ((Int32 × Int32 × qa_M) ⊕ qa_M))} (E : f_X12_spreads_b49 x2 x3 x4 h = some z) : qfr wf_X12_spreads_b49 h ((Sum.elim (fun z : Int32 × Int32 × Int32 × qa_M => z.2.2.2) (Sum.elim (fun z : Int32 × Int32 × qa_M => z.2.2) (fun z : qa_M => z))) z) := by
  unfold f_X12_spreads_b49 at E
  have e_h : qfr wf_X12_spreads_b49 h h := qfr_rf
  rcases qif_el E with E | E
  · refine qup_f (Q := fun z => qfr wf_X12_spreads_b49 h ((Sum.elim (fun z : Int32 × Int32 × Int32 × qa_M => z.2.2.2) (Sum.elim (fun z : Int32 × Int32 × qa_M => z.2.2) (fun z : qa_M => z))) z)) E (fun rz E => ?_)
    exact qfr_tr e_h (qfr_sub qsub_nil (fr_X12_spreads_b139 x2 x3 h E))
  · obtain ⟨c59, h59, E0, E⟩ := qbn_el E
    have e_h59 := qfr_tr e_h (qfr_sub qsub_nil (fr_X12_isThere x4 h E0))
    rcases qif_el E with E | E
    · exact qfr_tr e_h59 (qfr_sub qsub_nil (fr_X12_spreads_b133 x2 x3 x4 h59 E))
    · obtain ⟨c68, h68, E0, E⟩ := qbn_el E
      have e_h68 := qfr_tr e_h59 (qfr_sub qsub_nil (fr_X12_isWood x4 h59 E0))
      rcases qif_el E with E | E
      · obtain ⟨-, E⟩ := qck_el E
        obtain ⟨c82, h82, E0, E⟩ := qbn_el E
        have e_h82 := qfr_tr e_h68 (qfr_sub qsub_nil (fr_X12_apartOf x4 (h68.1 162 x3.toNatClampNeg) h68 E0))
        rcases qif_el E with E | E
        · obtain ⟨-, E⟩ := qck_el E
          rcases qif_el E with E | E
          · obtain ⟨-, E⟩ := qck_el E
            obtain ⟨-, E⟩ := qck_el E
            obtain ⟨-, E⟩ := qck_el E
            obtain ⟨h121, q_h121, E⟩ := qbd_el E
            have e_h121 := qfr_I0 q_h121 (List.mem_of_getElem? (i := 0) rfl) e_h82
            obtain ⟨-, E⟩ := qck_el E
            obtain ⟨h129, q_h129, E⟩ := qbd_el E
            have e_h129 := qfr_I0 q_h129 (List.mem_of_getElem? (i := 1) rfl) e_h121
            obtain ⟨v130, -, E⟩ := qbd_el E
            exact qfr_tr e_h129 (qfr_sub qsub_nil (fr_X12_spreads_b133 v130 x3 x4 h129 E))
          · exact qfr_tr e_h82 (qfr_sub qsub_nil (fr_X12_spreads_b133 x2 x3 x4 h82 E))
        · exact qfr_tr e_h82 (qfr_sub qsub_nil (fr_X12_spreads_b133 x2 x3 x4 h82 E))
      · exact qfr_tr e_h68 (qfr_sub qsub_nil (fr_X12_spreads_b133 x2 x3 x4 h68 E))
theorem fr_X12_spreads_b49_loop (x2 : Int32) (x3 : Int32) (x4 : Int32) (h : qa_M) {z : ((Int32 × Int32 × qa_M) ⊕ qa_M)} (E : f_X12_spreads_b49_loop x2 x3 x4 h = some z) : qfr wf_X12_spreads_b49 h ((Sum.elim (fun z : Int32 × Int32 × qa_M => z.2.2) (fun z : qa_M => z)) z) :=
  qlp_ind (fun sz : Int32 × Int32 × Int32 × qa_M => qfr wf_X12_spreads_b49 (sz.2.2.2) ((Sum.elim (fun z : Int32 × Int32 × qa_M => z.2.2) (fun z : qa_M => z)) z)) (fun sz E => fr_X12_spreads_b49 sz.1 sz.2.1 sz.2.2.1 sz.2.2.2 E) (fun sz sz2 E ih => qfr_tr (fr_X12_spreads_b49 sz.1 sz.2.1 sz.2.2.1 sz.2.2.2 E) ih) (x2, x3, x4, h) E
def wf_X12_spreads_b41 : List (Nat × Nat) := [(161, 0), (162, 0)]
theorem fr_X12_spreads_b41 (x2 : Int32) (x3 : Int32) (h : qa_M) {z : ((Int32 × Int32 × qa_M) ⊕ qa_M)} (E : f_X12_spreads_b41 x2 x3 h = some z) : qfr wf_X12_spreads_b41 h ((Sum.elim (fun z : Int32 × Int32 × qa_M => z.2.2) (fun z : qa_M => z)) z) := by
  unfold f_X12_spreads_b41 at E
  have e_h : qfr wf_X12_spreads_b41 h h := qfr_rf
  rcases qif_el E with E | E
  · refine qup_f (Q := fun z => qfr wf_X12_spreads_b41 h ((Sum.elim (fun z : Int32 × Int32 × qa_M => z.2.2) (fun z : qa_M => z)) z)) E (fun rz E => ?_)
    exact qsome_f (Q := fun z => qfr wf_X12_spreads_b41 h ((fun z : qa_M => z) z)) E e_h
  · obtain ⟨v47, -, E⟩ := qbd_el E
    exact qfr_tr e_h (qfr_sub (qsub_c (List.mem_of_getElem? (i := 0) rfl) (qsub_c (List.mem_of_getElem? (i := 1) rfl) qsub_nil)) (fr_X12_spreads_b49_loop x2 x3 v47 h E))
theorem fr_X12_spreads_b41_loop (x2 : Int32) (x3 : Int32) (h : qa_M) {z : qa_M} (E : f_X12_spreads_b41_loop x2 x3 h = some z) : qfr wf_X12_spreads_b41 h ((fun z : qa_M => z) z) :=
  qlp_ind (fun sz : Int32 × Int32 × qa_M => qfr wf_X12_spreads_b41 (sz.2.2) ((fun z : qa_M => z) z)) (fun sz E => fr_X12_spreads_b41 sz.1 sz.2.1 sz.2.2 E) (fun sz sz2 E ih => qfr_tr (fr_X12_spreads_b41 sz.1 sz.2.1 sz.2.2 E) ih) (x2, x3, h) E
def wf_X12_spreads_b23 : List (Nat × Nat) := [(161, 0), (162, 0)]
theorem fr_X12_spreads_b23 (x1 : Int32) (h : qa_M) {z : qa_M} (E : f_X12_spreads_b23 x1 h = some z) : qfr wf_X12_spreads_b23 h ((fun z : qa_M => z) z) := by
  unfold f_X12_spreads_b23 at E
  have e_h : qfr wf_X12_spreads_b23 h h := qfr_rf
  obtain ⟨-, E⟩ := qck_el E
  obtain ⟨h29, q_h29, E⟩ := qbd_el E
  have e_h29 := qfr_I0 q_h29 (List.mem_of_getElem? (i := 0) rfl) e_h
  obtain ⟨-, E⟩ := qck_el E
  obtain ⟨h36, q_h36, E⟩ := qbd_el E
  have e_h36 := qfr_I0 q_h36 (List.mem_of_getElem? (i := 1) rfl) e_h29
  obtain ⟨v38, -, E⟩ := qbd_el E
  obtain ⟨v40, -, E⟩ := qbd_el E
  exact qfr_tr e_h36 (qfr_sub (qsub_c (List.mem_of_getElem? (i := 0) rfl) (qsub_c (List.mem_of_getElem? (i := 1) rfl) qsub_nil)) (fr_X12_spreads_b41_loop v38 v40 h36 E))
def wf_X12_spreads_b2 : List (Nat × Nat) := [(161, 0), (162, 0)]
theorem fr_X12_spreads_b2 (x1 : Int32) (x2 : Int32) (h : qa_M) {z : ((Int32 × Int32 × qa_M) ⊕ qa_M)} (E : f_X12_spreads_b2 x1 x2 h = some z) : qfr wf_X12_spreads_b2 h ((Sum.elim (fun z : Int32 × Int32 × qa_M => z.2.2) (fun z : qa_M => z)) z) := by
  unfold f_X12_spreads_b2 at E
  have e_h : qfr wf_X12_spreads_b2 h h := qfr_rf
  rcases qif_el E with E | E
  · refine qup_f (Q := fun z => qfr wf_X12_spreads_b2 h ((Sum.elim (fun z : Int32 × Int32 × qa_M => z.2.2) (fun z : qa_M => z)) z)) E (fun rz E => ?_)
    exact qfr_tr e_h (qfr_sub (qsub_c (List.mem_of_getElem? (i := 0) rfl) (qsub_c (List.mem_of_getElem? (i := 1) rfl) qsub_nil)) (fr_X12_spreads_b23 x1 h E))
  · obtain ⟨-, E⟩ := qck_el E
    obtain ⟨h16, q_h16, E⟩ := qbd_el E
    have e_h16 := qfr_I0 q_h16 (List.mem_of_getElem? (i := 0) rfl) e_h
    obtain ⟨v17, -, E⟩ := qbd_el E
    exact qsome_f (Q := fun z => qfr wf_X12_spreads_b2 h ((Sum.elim (fun z : Int32 × Int32 × qa_M => z.2.2) (fun z : qa_M => z)) z)) E e_h16
theorem fr_X12_spreads_b2_loop (x1 : Int32) (x2 : Int32) (h : qa_M) {z : qa_M} (E : f_X12_spreads_b2_loop x1 x2 h = some z) : qfr wf_X12_spreads_b2 h ((fun z : qa_M => z) z) :=
  qlp_ind (fun sz : Int32 × Int32 × qa_M => qfr wf_X12_spreads_b2 (sz.2.2) ((fun z : qa_M => z) z)) (fun sz E => fr_X12_spreads_b2 sz.1 sz.2.1 sz.2.2 E) (fun sz sz2 E ih => qfr_tr (fr_X12_spreads_b2 sz.1 sz.2.1 sz.2.2 E) ih) (x1, x2, h) E
def w_X12_spreads : List (Nat × Nat) := [(161, 0), (162, 0)]
theorem fr_X12_spreads (x1 : Int32) (h : qa_M) {z : qa_M} (E : m_X12_spreads x1 h = some z) : qfr w_X12_spreads h ((fun z : qa_M => z) z) := by
  unfold m_X12_spreads at E
  have e_h : qfr w_X12_spreads h h := qfr_rf
  obtain ⟨v1, -, E⟩ := qbd_el E
  exact qfr_tr e_h (qfr_sub (qsub_c (List.mem_of_getElem? (i := 0) rfl) (qsub_c (List.mem_of_getElem? (i := 1) rfl) qsub_nil)) (fr_X12_spreads_b2_loop x1 v1 h E))
theorem fr_X12_walk_b358 (x4 : Int32) (h : qa_M) {z : (Int32 × qa_M)} (E : f_X12_walk_b358 x4 h = some z) : qfr wz h ((fun z : Int32 × qa_M => z.2) z) := by
  unfold f_X12_walk_b358 at E
  have e_h : qfr wz h h := qfr_rf
  rcases qif_el E with E | E
  · exact qsome_f (Q := fun z => qfr wz h ((fun z : Int32 × qa_M => z.2) z)) E e_h
  · exact qsome_f (Q := fun z => qfr wz h ((fun z : Int32 × qa_M => z.2) z)) E e_h
theorem fr_X12_walk_b352 (x2 : Int32) (x4 : Int32) (x5 : Int32) (h : qa_M) {z : ((Int32 × Int32 × Int32 × qa_M) ⊕ (Int32 × qa_M))} (E : f_X12_walk_b352 x2 x4 x5 h = some z) : qfr wz h ((Sum.elim (fun z : Int32 × Int32 × Int32 × qa_M => z.2.2.2) (fun z : Int32 × qa_M => z.2)) z) := by
  unfold f_X12_walk_b352 at E
  have e_h : qfr wz h h := qfr_rf
  obtain ⟨v352, -, E⟩ := qbd_el E
  exact qsome_f (Q := fun z => qfr wz h ((Sum.elim (fun z : Int32 × Int32 × Int32 × qa_M => z.2.2.2) (fun z : Int32 × qa_M => z.2)) z)) E e_h
theorem fr_X12_walk_b346 (x2 : Int32) (x4 : Int32) (x5 : Int32) (x6 : Int32) (h : qa_M) {z : ((Int32 × Int32 × Int32 × Int32 × qa_M) ⊕ ((Int32 × Int32 × Int32 × qa_M) ⊕ (Int32 × qa_M)))} (E : f_X12_walk_b346 x2 x4 x5 x6 h = some z) : qfr wz h ((Sum.elim (fun z : Int32 × Int32 × Int32 × Int32 × qa_M => z.2.2.2.2) (Sum.elim (fun z : Int32 × Int32 × Int32 × qa_M => z.2.2.2) (fun z : Int32 × qa_M => z.2))) z) := by
  unfold f_X12_walk_b346 at E
  have e_h : qfr wz h h := qfr_rf
  obtain ⟨v346, -, E⟩ := qbd_el E
  exact qsome_f (Q := fun z => qfr wz h ((Sum.elim (fun z : Int32 × Int32 × Int32 × Int32 × qa_M => z.2.2.2.2) (Sum.elim (fun z : Int32 × Int32 × Int32 × qa_M => z.2.2.2) (fun z : Int32 × qa_M => z.2))) z)) E e_h
theorem fr_X12_walk_b340 (x2 : Int32) (x4 : Int32) (x5 : Int32) (x6 : Int32) (x7 : Int32) (h : qa_M) {z : ((Int32 × Int32 × Int32 × Int32 × Int32 × qa_M) ⊕ ((Int32 × Int32 × Int32 × Int32 × qa_M) ⊕ ((Int32 × Int32 × Int32 × qa_M) ⊕ (Int32 × qa_M))))} (E : f_X12_walk_b340 x2 x4 x5 x6 x7 h = some z) : qfr wz h ((Sum.elim (fun z : Int32 × Int32 × Int32 × Int32 × Int32 × qa_M => z.2.2.2.2.2) (Sum.elim (fun z : Int32 × Int32 × Int32 × Int32 × qa_M => z.2.2.2.2) (Sum.elim (fun z : Int32 × Int32 × Int32 × qa_M => z.2.2.2) (fun z : Int32 × qa_M => z.2)))) z) := by
  unfold f_X12_walk_b340 at E
  have e_h : qfr wz h h := qfr_rf
  obtain ⟨v340, -, E⟩ := qbd_el E
  exact qsome_f (Q := fun z => qfr wz h ((Sum.elim (fun z : Int32 × Int32 × Int32 × Int32 × Int32 × qa_M => z.2.2.2.2.2) (Sum.elim (fun z : Int32 × Int32 × Int32 × Int32 × qa_M => z.2.2.2.2) (Sum.elim (fun z : Int32 × Int32 × Int32 × qa_M => z.2.2.2) (fun z : Int32 × qa_M => z.2)))) z)) E e_h
theorem fr_X12_walk_b338 (x2 : Int32) (x5 : Int32) (x6 : Int32) (x7 : Int32) (s0 : Int32) (h : qa_M) {z : ((Int32 × Int32 × Int32 × Int32 × Int32 × qa_M) ⊕ ((Int32 × Int32 × Int32 × Int32 × qa_M) ⊕ ((Int32 × Int32 × Int32 × qa_M) ⊕ (Int32 × qa_M))))} (E : f_X12_walk_b338 x2 x5 x6 x7 s0 h = some z) : qfr wz h ((Sum.elim (fun z : Int32 × Int32 × Int32 × Int32 × Int32 × qa_M => z.2.2.2.2.2) (Sum.elim (fun z : Int32 × Int32 × Int32 × Int32 × qa_M => z.2.2.2.2) (Sum.elim (fun z : Int32 × Int32 × Int32 × qa_M => z.2.2.2) (fun z : Int32 × qa_M => z.2)))) z) := by
  unfold f_X12_walk_b338 at E
  have e_h : qfr wz h h := qfr_rf
  obtain ⟨v338, -, E⟩ := qbd_el E
  exact qfr_tr e_h (qfr_sub qsub_nil (fr_X12_walk_b340 x2 v338 x5 x6 x7 h E))
theorem fr_X12_walk_b336 (x2 : Int32) (x4 : Int32) (x5 : Int32) (x6 : Int32) (x7 : Int32) (h : qa_M) {z : ((Int32 × Int32 × Int32 × Int32 × Int32 × qa_M) ⊕ ((Int32 × Int32 × Int32 × Int32 × qa_M) ⊕ ((Int32 × Int32 × Int32 × qa_M) ⊕ (Int32 × qa_M))))} (E : f_X12_walk_b336 x2 x4 x5 x6 x7 h = some z) : qfr wz h ((Sum.elim (fun z : Int32 × Int32 × Int32 × Int32 × Int32 × qa_M => z.2.2.2.2.2) (Sum.elim (fun z : Int32 × Int32 × Int32 × Int32 × qa_M => z.2.2.2.2) (Sum.elim (fun z : Int32 × Int32 × Int32 × qa_M => z.2.2.2) (fun z : Int32 × qa_M => z.2)))) z) := by
  unfold f_X12_walk_b336 at E
  have e_h : qfr wz h h := qfr_rf
  exact qfr_tr e_h (qfr_sub qsub_nil (fr_X12_walk_b338 x2 x5 x6 x7 x4 h E))
def wf_X12_walk_b317 : List (Nat × Nat) := [(164, 0)]
theorem fr_X12_walk_b317 (x2 : Int32) (x4 : Int32) (x5 : Int32) (x6 : Int32) (x7 : Int32) (x8 : Int32) (x9 : Int32) (s1 : Int32) (s2 : Int32) (h : qa_M) {z : ((Int32 × Int32 × Int32 × Int32 × Int32 × qa_M) ⊕ ((Int32 × Int32 × Int32 × Int32 × qa_M) ⊕ ((Int32 × Int32 × Int32 × qa_M) ⊕ (Int32 × qa_M))))} (E : f_X12_walk_b317 x2 x4 x5 x6 x7 x8 x9 s1 s2 h = some z) : qfr wf_X12_walk_b317 h ((Sum.elim (fun z : Int32 × Int32 × Int32 × Int32 × Int32 × qa_M => z.2.2.2.2.2) (Sum.elim (fun z : Int32 × Int32 × Int32 × Int32 × qa_M => z.2.2.2.2) (Sum.elim (fun z : Int32 × Int32 × Int32 × qa_M => z.2.2.2) (fun z : Int32 × qa_M => z.2)))) z) := by
  unfold f_X12_walk_b317 at E
  have e_h : qfr wf_X12_walk_b317 h h := qfr_rf
  obtain ⟨-, E⟩ := qck_el E
  obtain ⟨h317, q_h317, E⟩ := qbd_el E
  have e_h317 := qfr_I0 q_h317 (List.mem_of_getElem? (i := 0) rfl) e_h
  rcases qif_el E with E | E
  · rcases qif_el E with E | E
    · exact qfr_tr e_h317 (qfr_sub qsub_nil (fr_X12_walk_b336 x2 x4 x5 x6 x7 h317 E))
    · exact qfr_tr e_h317 (qfr_sub qsub_nil (fr_X12_walk_b338 x2 x5 x6 x7 x9 h317 E))
  · exact qfr_tr e_h317 (qfr_sub qsub_nil (fr_X12_walk_b336 x2 x4 x5 x6 x7 h317 E))
def wf_X12_walk_b184 : List (Nat × Nat) := [(164, 0)]
theorem fr_X12_walk_b184 (x2 : Int32) (x4 : Int32) (x5 : Int32) (x6 : Int32) (x7 : Int32) (h : qa_M) {z : ((Int32 × Int32 × Int32 × Int32 × Int32 × qa_M) ⊕ ((Int32 × Int32 × Int32 × Int32 × qa_M) ⊕ ((Int32 × Int32 × Int32 × qa_M) ⊕ (Int32 × qa_M))))} (E : f_X12_walk_b184 x2 x4 x5 x6 x7 h = some z) : qfr wf_X12_walk_b184 h ((Sum.elim (fun z : Int32 × Int32 × Int32 × Int32 × Int32 × qa_M => z.2.2.2.2.2) (Sum.elim (fun z : Int32 × Int32 × Int32 × Int32 × qa_M => z.2.2.2.2) (Sum.elim (fun z : Int32 × Int32 × Int32 × qa_M => z.2.2.2) (fun z : Int32 × qa_M => z.2)))) z) := by
  unfold f_X12_walk_b184 at E
  have e_h : qfr wf_X12_walk_b184 h h := qfr_rf
  rcases qif_el E with E | E
  · refine qup_f (Q := fun z => qfr wf_X12_walk_b184 h ((Sum.elim (fun z : Int32 × Int32 × Int32 × Int32 × Int32 × qa_M => z.2.2.2.2.2) (Sum.elim (fun z : Int32 × Int32 × Int32 × Int32 × qa_M => z.2.2.2.2) (Sum.elim (fun z : Int32 × Int32 × Int32 × qa_M => z.2.2.2) (fun z : Int32 × qa_M => z.2)))) z)) E (fun rz E => ?_)
    exact qfr_tr e_h (qfr_sub qsub_nil (fr_X12_walk_b346 x2 x4 x5 x6 h E))
  · obtain ⟨-, E⟩ := qck_el E
    rcases qif_el E with E | E
    · refine qup_f (Q := fun z => qfr wf_X12_walk_b184 h ((Sum.elim (fun z : Int32 × Int32 × Int32 × Int32 × Int32 × qa_M => z.2.2.2.2.2) (Sum.elim (fun z : Int32 × Int32 × Int32 × Int32 × qa_M => z.2.2.2.2) (Sum.elim (fun z : Int32 × Int32 × Int32 × qa_M => z.2.2.2) (fun z : Int32 × qa_M => z.2)))) z)) E (fun rz E => ?_)
      exact qfr_tr e_h (qfr_sub qsub_nil (fr_X12_walk_b346 x2 x4 x5 x6 h E))
    · obtain ⟨v217, -, E⟩ := qbd_el E
      obtain ⟨c223, h223, E0, E⟩ := qbn_el E
      have e_h223 := qfr_tr e_h (qfr_sub qsub_nil (fr_X12_has x2.toInt64 x7 h E0))
      rcases qif_el E with E | E
      · exact qfr_tr e_h223 (qfr_sub qsub_nil (fr_X12_walk_b340 x2 x4 x5 x6 x7 h223 E))
      · obtain ⟨c234, h234, E0, E⟩ := qbn_el E
        have e_h234 := qfr_tr e_h223 (qfr_sub qsub_nil (fr_X12_has x5.toInt64 x7 h223 E0))
        rcases qif_el E with E | E
        · obtain ⟨-, E⟩ := qck_el E
          obtain ⟨-, E⟩ := qck_el E
          obtain ⟨v267, -, E⟩ := qbd_el E
          obtain ⟨-, E⟩ := qck_el E
          rcases qif_el E with E | E
          · obtain ⟨-, E⟩ := qck_el E
            exact qfr_tr e_h234 (qfr_sub (qsub_c (List.mem_of_getElem? (i := 0) rfl) qsub_nil) (fr_X12_walk_b317 x2 x4 x5 x6 x7 v217 v267 (((8 : Int32) * v217) + x7) (h234.1 164 (((8 : Int32) * v217) + x7).toNatClampNeg) h234 E))
          · exact qfr_tr e_h234 (qfr_sub (qsub_c (List.mem_of_getElem? (i := 0) rfl) qsub_nil) (fr_X12_walk_b317 x2 x4 x5 x6 x7 v217 v267 (((8 : Int32) * v217) + x7) v267 h234 E))
        · exact qfr_tr e_h234 (qfr_sub qsub_nil (fr_X12_walk_b340 x2 x4 x5 x6 x7 h234 E))
theorem fr_X12_walk_b184_loop (x2 : Int32) (x4 : Int32) (x5 : Int32) (x6 : Int32) (x7 : Int32) (h : qa_M) {z : ((Int32 × Int32 × Int32 × Int32 × qa_M) ⊕ ((Int32 × Int32 × Int32 × qa_M) ⊕ (Int32 × qa_M)))} (E : f_X12_walk_b184_loop x2 x4 x5 x6 x7 h = some z) : qfr wf_X12_walk_b184 h ((Sum.elim (fun z : Int32 × Int32 × Int32 × Int32 × qa_M => z.2.2.2.2) (Sum.elim (fun z : Int32 × Int32 × Int32 × qa_M => z.2.2.2) (fun z : Int32 × qa_M => z.2))) z) :=
  qlp_ind (fun sz : Int32 × Int32 × Int32 × Int32 × Int32 × qa_M => qfr wf_X12_walk_b184 (sz.2.2.2.2.2) ((Sum.elim (fun z : Int32 × Int32 × Int32 × Int32 × qa_M => z.2.2.2.2) (Sum.elim (fun z : Int32 × Int32 × Int32 × qa_M => z.2.2.2) (fun z : Int32 × qa_M => z.2))) z)) (fun sz E => fr_X12_walk_b184 sz.1 sz.2.1 sz.2.2.1 sz.2.2.2.1 sz.2.2.2.2.1 sz.2.2.2.2.2 E) (fun sz sz2 E ih => qfr_tr (fr_X12_walk_b184 sz.1 sz.2.1 sz.2.2.1 sz.2.2.2.1 sz.2.2.2.2.1 sz.2.2.2.2.2 E) ih) (x2, x4, x5, x6, x7, h) E
def wf_X12_walk_b174 : List (Nat × Nat) := [(164, 0)]
theorem fr_X12_walk_b174 (x2 : Int32) (x4 : Int32) (x5 : Int32) (x6 : Int32) (h : qa_M) {z : ((Int32 × Int32 × Int32 × Int32 × qa_M) ⊕ ((Int32 × Int32 × Int32 × qa_M) ⊕ (Int32 × qa_M)))} (E : f_X12_walk_b174 x2 x4 x5 x6 h = some z) : qfr wf_X12_walk_b174 h ((Sum.elim (fun z : Int32 × Int32 × Int32 × Int32 × qa_M => z.2.2.2.2) (Sum.elim (fun z : Int32 × Int32 × Int32 × qa_M => z.2.2.2) (fun z : Int32 × qa_M => z.2))) z) := by
  unfold f_X12_walk_b174 at E
  have e_h : qfr wf_X12_walk_b174 h h := qfr_rf
  rcases qif_el E with E | E
  · refine qup_f (Q := fun z => qfr wf_X12_walk_b174 h ((Sum.elim (fun z : Int32 × Int32 × Int32 × Int32 × qa_M => z.2.2.2.2) (Sum.elim (fun z : Int32 × Int32 × Int32 × qa_M => z.2.2.2) (fun z : Int32 × qa_M => z.2))) z)) E (fun rz E => ?_)
    exact qfr_tr e_h (qfr_sub qsub_nil (fr_X12_walk_b352 x2 x4 x5 h E))
  · obtain ⟨v182, -, E⟩ := qbd_el E
    exact qfr_tr e_h (qfr_sub (qsub_c (List.mem_of_getElem? (i := 0) rfl) qsub_nil) (fr_X12_walk_b184_loop x2 x4 x5 x6 v182 h E))
theorem fr_X12_walk_b174_loop (x2 : Int32) (x4 : Int32) (x5 : Int32) (x6 : Int32) (h : qa_M) {z : ((Int32 × Int32 × Int32 × qa_M) ⊕ (Int32 × qa_M))} (E : f_X12_walk_b174_loop x2 x4 x5 x6 h = some z) : qfr wf_X12_walk_b174 h ((Sum.elim (fun z : Int32 × Int32 × Int32 × qa_M => z.2.2.2) (fun z : Int32 × qa_M => z.2)) z) :=
  qlp_ind (fun sz : Int32 × Int32 × Int32 × Int32 × qa_M => qfr wf_X12_walk_b174 (sz.2.2.2.2) ((Sum.elim (fun z : Int32 × Int32 × Int32 × qa_M => z.2.2.2) (fun z : Int32 × qa_M => z.2)) z)) (fun sz E => fr_X12_walk_b174 sz.1 sz.2.1 sz.2.2.1 sz.2.2.2.1 sz.2.2.2.2 E) (fun sz sz2 E ih => qfr_tr (fr_X12_walk_b174 sz.1 sz.2.1 sz.2.2.1 sz.2.2.2.1 sz.2.2.2.2 E) ih) (x2, x4, x5, x6, h) E
def wf_X12_walk_b163 : List (Nat × Nat) := [(164, 0)]
theorem fr_X12_walk_b163 (x2 : Int32) (x4 : Int32) (x5 : Int32) (h : qa_M) {z : ((Int32 × Int32 × Int32 × qa_M) ⊕ (Int32 × qa_M))} (E : f_X12_walk_b163 x2 x4 x5 h = some z) : qfr wf_X12_walk_b163 h ((Sum.elim (fun z : Int32 × Int32 × Int32 × qa_M => z.2.2.2) (fun z : Int32 × qa_M => z.2)) z) := by
  unfold f_X12_walk_b163 at E
  have e_h : qfr wf_X12_walk_b163 h h := qfr_rf
  rcases qif_el E with E | E
  · refine qup_f (Q := fun z => qfr wf_X12_walk_b163 h ((Sum.elim (fun z : Int32 × Int32 × Int32 × qa_M => z.2.2.2) (fun z : Int32 × qa_M => z.2)) z)) E (fun rz E => ?_)
    exact qfr_tr e_h (qfr_sub qsub_nil (fr_X12_walk_b358 x4 h E))
  · obtain ⟨v172, -, E⟩ := qbd_el E
    exact qfr_tr e_h (qfr_sub (qsub_c (List.mem_of_getElem? (i := 0) rfl) qsub_nil) (fr_X12_walk_b174_loop x2 x4 x5 v172 h E))
theorem fr_X12_walk_b163_loop (x2 : Int32) (x4 : Int32) (x5 : Int32) (h : qa_M) {z : (Int32 × qa_M)} (E : f_X12_walk_b163_loop x2 x4 x5 h = some z) : qfr wf_X12_walk_b163 h ((fun z : Int32 × qa_M => z.2) z) :=
  qlp_ind (fun sz : Int32 × Int32 × Int32 × qa_M => qfr wf_X12_walk_b163 (sz.2.2.2) ((fun z : Int32 × qa_M => z.2) z)) (fun sz E => fr_X12_walk_b163 sz.1 sz.2.1 sz.2.2.1 sz.2.2.2 E) (fun sz sz2 E ih => qfr_tr (fr_X12_walk_b163 sz.1 sz.2.1 sz.2.2.1 sz.2.2.2 E) ih) (x2, x4, x5, h) E
def wf_X12_walk_b158 : List (Nat × Nat) := [(164, 0)]
theorem fr_X12_walk_b158 (x2 : Int32) (s0 : Int32) (h : qa_M) {z : (Int32 × qa_M)} (E : f_X12_walk_b158 x2 s0 h = some z) : qfr wf_X12_walk_b158 h ((fun z : Int32 × qa_M => z.2) z) := by
  unfold f_X12_walk_b158 at E
  have e_h : qfr wf_X12_walk_b158 h h := qfr_rf
  obtain ⟨v158, -, E⟩ := qbd_el E
  obtain ⟨v161, -, E⟩ := qbd_el E
  exact qfr_tr e_h (qfr_sub (qsub_c (List.mem_of_getElem? (i := 0) rfl) qsub_nil) (fr_X12_walk_b163_loop x2 v158 v161 h E))
def wf_X12_walk_b128 : List (Nat × Nat) := [(164, 0)]
theorem fr_X12_walk_b128 (x1 : Int32) (x2 : Int32) (h : qa_M) {z : (Int32 × qa_M)} (E : f_X12_walk_b128 x1 x2 h = some z) : qfr wf_X12_walk_b128 h ((fun z : Int32 × qa_M => z.2) z) := by
  unfold f_X12_walk_b128 at E
  have e_h : qfr wf_X12_walk_b128 h h := qfr_rf
  obtain ⟨v133, -, E⟩ := qbd_el E
  obtain ⟨-, E⟩ := qck_el E
  obtain ⟨h145, q_h145, E⟩ := qbd_el E
  have e_h145 := qfr_I0 q_h145 (List.mem_of_getElem? (i := 0) rfl) e_h
  rcases qif_el E with E | E
  · exact qfr_tr e_h145 (qfr_sub (qsub_c (List.mem_of_getElem? (i := 0) rfl) qsub_nil) (fr_X12_walk_b158 x2 (0 : Int32) h145 E))
  · exact qfr_tr e_h145 (qfr_sub (qsub_c (List.mem_of_getElem? (i := 0) rfl) qsub_nil) (fr_X12_walk_b158 x2 (99999 : Int32) h145 E))
def wf_X12_walk_b104 : List (Nat × Nat) := [(164, 0)]
theorem fr_X12_walk_b104 (x1 : Int32) (x2 : Int32) (x3 : Int32) (h : qa_M) {z : ((Int32 × Int32 × Int32 × qa_M) ⊕ (Int32 × qa_M))} (E : f_X12_walk_b104 x1 x2 x3 h = some z) : qfr wf_X12_walk_b104 h ((Sum.elim (fun z : Int32 × Int32 × Int32 × qa_M => z.2.2.2) (fun z : Int32 × qa_M => z.2)) z) := by
  unfold f_X12_walk_b104 at E
  have e_h : qfr wf_X12_walk_b104 h h := qfr_rf
  rcases qif_el E with E | E
  · refine qup_f (Q := fun z => qfr wf_X12_walk_b104 h ((Sum.elim (fun z : Int32 × Int32 × Int32 × qa_M => z.2.2.2) (fun z : Int32 × qa_M => z.2)) z)) E (fun rz E => ?_)
    exact qfr_tr e_h (qfr_sub (qsub_c (List.mem_of_getElem? (i := 0) rfl) qsub_nil) (fr_X12_walk_b128 x1 x2 h E))
  · obtain ⟨-, E⟩ := qck_el E
    obtain ⟨h121, q_h121, E⟩ := qbd_el E
    have e_h121 := qfr_I0 q_h121 (List.mem_of_getElem? (i := 0) rfl) e_h
    obtain ⟨v122, -, E⟩ := qbd_el E
    exact qsome_f (Q := fun z => qfr wf_X12_walk_b104 h ((Sum.elim (fun z : Int32 × Int32 × Int32 × qa_M => z.2.2.2) (fun z : Int32 × qa_M => z.2)) z)) E e_h121
theorem fr_X12_walk_b104_loop (x1 : Int32) (x2 : Int32) (x3 : Int32) (h : qa_M) {z : (Int32 × qa_M)} (E : f_X12_walk_b104_loop x1 x2 x3 h = some z) : qfr wf_X12_walk_b104 h ((fun z : Int32 × qa_M => z.2) z) :=
  qlp_ind (fun sz : Int32 × Int32 × Int32 × qa_M => qfr wf_X12_walk_b104 (sz.2.2.2) ((fun z : Int32 × qa_M => z.2) z)) (fun sz E => fr_X12_walk_b104 sz.1 sz.2.1 sz.2.2.1 sz.2.2.2 E) (fun sz sz2 E ih => qfr_tr (fr_X12_walk_b104 sz.1 sz.2.1 sz.2.2.1 sz.2.2.2 E) ih) (x1, x2, x3, h) E
def wf_X12_walk_b102 : List (Nat × Nat) := [(164, 0)]
theorem fr_X12_walk_b102 (x1 : Int32) (x2 : Int32) (h : qa_M) {z : (Int32 × qa_M)} (E : f_X12_walk_b102 x1 x2 h = some z) : qfr wf_X12_walk_b102 h ((fun z : Int32 × qa_M => z.2) z) := by
  unfold f_X12_walk_b102 at E
  have e_h : qfr wf_X12_walk_b102 h h := qfr_rf
  obtain ⟨v103, -, E⟩ := qbd_el E
  exact qfr_tr e_h (qfr_sub (qsub_c (List.mem_of_getElem? (i := 0) rfl) qsub_nil) (fr_X12_walk_b104_loop x1 x2 v103 h E))
theorem fr_X12_walk_b96 (x1 : Int32) (x2 : Int32) (x3 : Int32) (h : qa_M) {z : ((Int32 × Int32 × Int32 × qa_M) ⊕ (Int32 × qa_M))} (E : f_X12_walk_b96 x1 x2 x3 h = some z) : qfr wz h ((Sum.elim (fun z : Int32 × Int32 × Int32 × qa_M => z.2.2.2) (fun z : Int32 × qa_M => z.2)) z) := by
  unfold f_X12_walk_b96 at E
  have e_h : qfr wz h h := qfr_rf
  obtain ⟨v96, -, E⟩ := qbd_el E
  exact qsome_f (Q := fun z => qfr wz h ((Sum.elim (fun z : Int32 × Int32 × Int32 × qa_M => z.2.2.2) (fun z : Int32 × qa_M => z.2)) z)) E e_h
def wf_X12_walk_b55 : List (Nat × Nat) := [(163, 0)]
theorem fr_X12_walk_b55 (x1 : Int32) (x2 : Int32) (x3 : Int32) (x4 : Int32) (h : qa_M) {z : ((Int32 × Int32 × Int32 × Int32 × qa_M) ⊕ ((Int32 × Int32 × Int32 × qa_M) ⊕ (Int32 × qa_M)))} (E : f_X12_walk_b55 x1 x2 x3 x4 h = some z) : qfr wf_X12_walk_b55 h ((Sum.elim (fun z : Int32 × Int32 × Int32 × Int32 × qa_M => z.2.2.2.2) (Sum.elim (fun z : Int32 × Int32 × Int32 × qa_M => z.2.2.2) (fun z : Int32 × qa_M => z.2))) z) := by
  unfold f_X12_walk_b55 at E
  have e_h : qfr wf_X12_walk_b55 h h := qfr_rf
  obtain ⟨-, E⟩ := qck_el E
  rcases qif_el E with E | E
  · refine qup_f (Q := fun z => qfr wf_X12_walk_b55 h ((Sum.elim (fun z : Int32 × Int32 × Int32 × Int32 × qa_M => z.2.2.2.2) (Sum.elim (fun z : Int32 × Int32 × Int32 × qa_M => z.2.2.2) (fun z : Int32 × qa_M => z.2))) z)) E (fun rz E => ?_)
    exact qfr_tr e_h (qfr_sub qsub_nil (fr_X12_walk_b96 x1 x2 x3 h E))
  · obtain ⟨-, E⟩ := qck_el E
    obtain ⟨-, E⟩ := qck_el E
    obtain ⟨-, E⟩ := qck_el E
    obtain ⟨h89, q_h89, E⟩ := qbd_el E
    have e_h89 := qfr_I0 q_h89 (List.mem_of_getElem? (i := 0) rfl) e_h
    obtain ⟨v90, -, E⟩ := qbd_el E
    exact qsome_f (Q := fun z => qfr wf_X12_walk_b55 h ((Sum.elim (fun z : Int32 × Int32 × Int32 × Int32 × qa_M => z.2.2.2.2) (Sum.elim (fun z : Int32 × Int32 × Int32 × qa_M => z.2.2.2) (fun z : Int32 × qa_M => z.2))) z)) E e_h89
theorem fr_X12_walk_b55_loop (x1 : Int32) (x2 : Int32) (x3 : Int32) (x4 : Int32) (h : qa_M) {z : ((Int32 × Int32 × Int32 × qa_M) ⊕ (Int32 × qa_M))} (E : f_X12_walk_b55_loop x1 x2 x3 x4 h = some z) : qfr wf_X12_walk_b55 h ((Sum.elim (fun z : Int32 × Int32 × Int32 × qa_M => z.2.2.2) (fun z : Int32 × qa_M => z.2)) z) :=
  qlp_ind (fun sz : Int32 × Int32 × Int32 × Int32 × qa_M => qfr wf_X12_walk_b55 (sz.2.2.2.2) ((Sum.elim (fun z : Int32 × Int32 × Int32 × qa_M => z.2.2.2) (fun z : Int32 × qa_M => z.2)) z)) (fun sz E => fr_X12_walk_b55 sz.1 sz.2.1 sz.2.2.1 sz.2.2.2.1 sz.2.2.2.2 E) (fun sz sz2 E ih => qfr_tr (fr_X12_walk_b55 sz.1 sz.2.1 sz.2.2.1 sz.2.2.2.1 sz.2.2.2.2 E) ih) (x1, x2, x3, x4, h) E
def wf_X12_walk_b32 : List (Nat × Nat) := [(161, 0), (162, 0), (163, 0), (164, 0)]
theorem fr_X12_walk_b32 (x1 : Int32) (x2 : Int32) (x3 : Int32) (h : qa_M) {z : ((Int32 × Int32 × Int32 × qa_M) ⊕ (Int32 × qa_M))} (E : f_X12_walk_b32 x1 x2 x3 h = some z) : qfr wf_X12_walk_b32 h ((Sum.elim (fun z : Int32 × Int32 × Int32 × qa_M => z.2.2.2) (fun z : Int32 × qa_M => z.2)) z) := by
  unfold f_X12_walk_b32 at E
  have e_h : qfr wf_X12_walk_b32 h h := qfr_rf
  obtain ⟨-, E⟩ := qck_el E
  rcases qif_el E with E | E
  · refine qup_f (Q := fun z => qfr wf_X12_walk_b32 h ((Sum.elim (fun z : Int32 × Int32 × Int32 × qa_M => z.2.2.2) (fun z : Int32 × qa_M => z.2)) z)) E (fun rz E => ?_)
    exact qfr_tr e_h (qfr_sub (qsub_c (List.mem_of_getElem? (i := 3) rfl) qsub_nil) (fr_X12_walk_b102 x1 x2 h E))
  · obtain ⟨-, E⟩ := qck_el E
    obtain ⟨h49, E0, E⟩ := qbv_el E
    have e_h49 := qfr_tr e_h (qfr_sub (qsub_c (List.mem_of_getElem? (i := 0) rfl) (qsub_c (List.mem_of_getElem? (i := 1) rfl) qsub_nil)) (fr_X12_spreads (h.1 122 x3.toNatClampNeg) h E0))
    obtain ⟨v53, -, E⟩ := qbd_el E
    exact qfr_tr e_h49 (qfr_sub (qsub_c (List.mem_of_getElem? (i := 2) rfl) qsub_nil) (fr_X12_walk_b55_loop x1 x2 x3 v53 h49 E))
theorem fr_X12_walk_b32_loop (x1 : Int32) (x2 : Int32) (x3 : Int32) (h : qa_M) {z : (Int32 × qa_M)} (E : f_X12_walk_b32_loop x1 x2 x3 h = some z) : qfr wf_X12_walk_b32 h ((fun z : Int32 × qa_M => z.2) z) :=
  qlp_ind (fun sz : Int32 × Int32 × Int32 × qa_M => qfr wf_X12_walk_b32 (sz.2.2.2) ((fun z : Int32 × qa_M => z.2) z)) (fun sz E => fr_X12_walk_b32 sz.1 sz.2.1 sz.2.2.1 sz.2.2.2 E) (fun sz sz2 E ih => qfr_tr (fr_X12_walk_b32 sz.1 sz.2.1 sz.2.2.1 sz.2.2.2 E) ih) (x1, x2, x3, h) E
def w_X12_walk : List (Nat × Nat) := [(161, 0), (162, 0), (163, 0), (164, 0)]
theorem fr_X12_walk (x1 : Int32) (x2 : Int32) (h : qa_M) {z : (Int32 × qa_M)} (E : m_X12_walk x1 x2 h = some z) : qfr w_X12_walk h ((fun z : Int32 × qa_M => z.2) z) := by
  unfold m_X12_walk at E
  have e_h : qfr w_X12_walk h h := qfr_rf
  obtain ⟨c2, h2, E0, E⟩ := qbn_el E
  have e_h2 := qfr_tr e_h (qfr_sub qsub_nil (fr_X12_isHill x1 h E0))
  rcases qif_el E with E | E
  · exact qsome_f (Q := fun z => qfr w_X12_walk h ((fun z : Int32 × qa_M => z.2) z)) E e_h2
  · obtain ⟨-, E⟩ := qck_el E
    obtain ⟨c22, h22, E0, E⟩ := qbn_el E
    have e_h22 := qfr_tr e_h2 (qfr_sub qsub_nil (fr_X12_in x2.toInt64 (0 : Int64) ((((1 : Int32) <<< ((h2.1 120 (2 : Int32).toNatClampNeg) &&& 31)) - (1 : Int32)).toInt64) h2 E0))
    rcases qif_el E with E | E
    · exact qsome_f (Q := fun z => qfr w_X12_walk h ((fun z : Int32 × qa_M => z.2) z)) E e_h22
    · obtain ⟨v31, -, E⟩ := qbd_el E
      exact qfr_tr e_h22 (qfr_sub (qsub_c (List.mem_of_getElem? (i := 0) rfl) (qsub_c (List.mem_of_getElem? (i := 1) rfl) (qsub_c (List.mem_of_getElem? (i := 2) rfl) (qsub_c (List.mem_of_getElem? (i := 3) rfl) qsub_nil)))) (fr_X12_walk_b32_loop x1 x2 v31 h22 E))
def w_X12_seed : List (Nat × Nat) := [(120, 0)]
theorem fr_X12_seed (x1 : Int32) (h : qa_M) {z : (Int32 × qa_M)} (E : m_X12_seed x1 h = some z) : qfr w_X12_seed h ((fun z : Int32 × qa_M => z.2) z) := by
  unfold m_X12_seed at E
  have e_h : qfr w_X12_seed h h := qfr_rf
  rcases qif_el E with E | E
  · obtain ⟨-, E⟩ := qck_el E
    obtain ⟨v13, -, E⟩ := qbd_el E
    obtain ⟨-, E⟩ := qck_el E
    obtain ⟨h21, q_h21, E⟩ := qbd_el E
    have e_h21 := qfr_I0 q_h21 (List.mem_of_getElem? (i := 0) rfl) e_h
    exact qsome_f (Q := fun z => qfr w_X12_seed h ((fun z : Int32 × qa_M => z.2) z)) E e_h21
  · exact qsome_f (Q := fun z => qfr w_X12_seed h ((fun z : Int32 × qa_M => z.2) z)) E e_h
def w_X12_drawn : List (Nat × Nat) := [(119, 49), (119, 50), (120, 0), (149, 0), (150, 0), (151, 0), (152, 0), (153, 0), (154, 0), (155, 0)]
theorem fr_X12_drawn (x1 : Int32) (h : qa_M) {z : (Int32 × qa_M)} (E : m_X12_drawn x1 h = some z) : qfr w_X12_drawn h ((fun z : Int32 × qa_M => z.2) z) := by
  unfold m_X12_drawn at E
  have e_h : qfr w_X12_drawn h h := qfr_rf
  obtain ⟨c2, h2, E0, E⟩ := qbn_el E
  have e_h2 := qfr_tr e_h (qfr_sub qsub_nil (fr_X12_isSet x1 h E0))
  rcases qif_el E with E | E
  · exact qsome_f (Q := fun z => qfr w_X12_drawn h ((fun z : Int32 × qa_M => z.2) z)) E e_h2
  · obtain ⟨c12, h12, E0, E⟩ := qbn_el E
    have e_h12 := qfr_tr e_h2 (qfr_sub (qsub_c (List.mem_of_getElem? (i := 0) rfl) (qsub_c (List.mem_of_getElem? (i := 1) rfl) (qsub_c (List.mem_of_getElem? (i := 3) rfl) (qsub_c (List.mem_of_getElem? (i := 4) rfl) (qsub_c (List.mem_of_getElem? (i := 5) rfl) (qsub_c (List.mem_of_getElem? (i := 6) rfl) (qsub_c (List.mem_of_getElem? (i := 7) rfl) (qsub_c (List.mem_of_getElem? (i := 8) rfl) (qsub_c (List.mem_of_getElem? (i := 9) rfl) qsub_nil))))))))) (fr_X12_manyFit x1 h2 E0))
    obtain ⟨v15, -, E⟩ := qbd_el E
    rcases qif_el E with E | E
    · exact qsome_f (Q := fun z => qfr w_X12_drawn h ((fun z : Int32 × qa_M => z.2) z)) E e_h12
    · obtain ⟨-, E⟩ := qck_el E
      obtain ⟨-, E⟩ := qck_el E
      obtain ⟨h50, q_h50, E⟩ := qbd_el E
      have e_h50 := qfr_I0 q_h50 (List.mem_of_getElem? (i := 2) rfl) e_h12
      obtain ⟨-, E⟩ := qck_el E
      obtain ⟨-, E⟩ := qnz_el E
      exact qsome_f (Q := fun z => qfr w_X12_drawn h ((fun z : Int32 × qa_M => z.2) z)) E e_h50
theorem fr_X12_allThings_b4 (x1 : Int32) (x2 : Int32) (h : qa_M) {z : ((Int32 × Int32 × qa_M) ⊕ (Int32 × qa_M))} (E : f_X12_allThings_b4 x1 x2 h = some z) : qfr wz h ((Sum.elim (fun z : Int32 × Int32 × qa_M => z.2.2) (fun z : Int32 × qa_M => z.2)) z) := by
  unfold f_X12_allThings_b4 at E
  have e_h : qfr wz h h := qfr_rf
  obtain ⟨-, E⟩ := qck_el E
  rcases qif_el E with E | E
  · refine qup_f (Q := fun z => qfr wz h ((Sum.elim (fun z : Int32 × Int32 × qa_M => z.2.2) (fun z : Int32 × qa_M => z.2)) z)) E (fun rz E => ?_)
    exact qsome_f (Q := fun z => qfr wz h ((fun z : Int32 × qa_M => z.2) z)) E e_h
  · obtain ⟨-, E⟩ := qck_el E
    obtain ⟨v22, -, E⟩ := qbd_el E
    obtain ⟨v23, -, E⟩ := qbd_el E
    exact qsome_f (Q := fun z => qfr wz h ((Sum.elim (fun z : Int32 × Int32 × qa_M => z.2.2) (fun z : Int32 × qa_M => z.2)) z)) E e_h
theorem fr_X12_allThings_b4_loop (x1 : Int32) (x2 : Int32) (h : qa_M) {z : (Int32 × qa_M)} (E : f_X12_allThings_b4_loop x1 x2 h = some z) : qfr wz h ((fun z : Int32 × qa_M => z.2) z) :=
  qlp_ind (fun sz : Int32 × Int32 × qa_M => qfr wz (sz.2.2) ((fun z : Int32 × qa_M => z.2) z)) (fun sz E => fr_X12_allThings_b4 sz.1 sz.2.1 sz.2.2 E) (fun sz sz2 E ih => qfr_tr (fr_X12_allThings_b4 sz.1 sz.2.1 sz.2.2 E) ih) (x1, x2, h) E
theorem fr_X12_allThings (h : qa_M) {z : (Int32 × qa_M)} (E : m_X12_allThings h = some z) : qfr wz h ((fun z : Int32 × qa_M => z.2) z) := by
  unfold m_X12_allThings at E
  have e_h : qfr wz h h := qfr_rf
  obtain ⟨v1, -, E⟩ := qbd_el E
  obtain ⟨v3, -, E⟩ := qbd_el E
  exact qfr_tr e_h (qfr_sub qsub_nil (fr_X12_allThings_b4_loop v1 v3 h E))
theorem fr_X12_count (x1 : Int32) (h : qa_M) {z : (Int32 × qa_M)} (E : m_X12_count x1 h = some z) : qfr wz h ((fun z : Int32 × qa_M => z.2) z) := by
  unfold m_X12_count at E
  have e_h : qfr wz h h := qfr_rf
  rcases qif_el E with E | E
  · obtain ⟨-, E⟩ := qck_el E
    exact qsome_f (Q := fun z => qfr wz h ((fun z : Int32 × qa_M => z.2) z)) E e_h
  · rcases qif_el E with E | E
    · obtain ⟨-, E⟩ := qck_el E
      exact qsome_f (Q := fun z => qfr wz h ((fun z : Int32 × qa_M => z.2) z)) E e_h
    · rcases qif_el E with E | E
      · obtain ⟨-, E⟩ := qck_el E
        exact qsome_f (Q := fun z => qfr wz h ((fun z : Int32 × qa_M => z.2) z)) E e_h
      · rcases qif_el E with E | E
        · obtain ⟨-, E⟩ := qck_el E
          exact qsome_f (Q := fun z => qfr wz h ((fun z : Int32 × qa_M => z.2) z)) E e_h
        · rcases qif_el E with E | E
          · obtain ⟨-, E⟩ := qck_el E
            exact qsome_f (Q := fun z => qfr wz h ((fun z : Int32 × qa_M => z.2) z)) E e_h
          · rcases qif_el E with E | E
            · obtain ⟨c96, h96, E0, E⟩ := qbn_el E
              have e_h96 := qfr_tr e_h (qfr_sub qsub_nil (fr_X12_allThings h E0))
              exact qsome_f (Q := fun z => qfr wz h ((fun z : Int32 × qa_M => z.2) z)) E e_h96
            · rcases qif_el E with E | E
              · obtain ⟨-, E⟩ := qck_el E
                exact qsome_f (Q := fun z => qfr wz h ((fun z : Int32 × qa_M => z.2) z)) E e_h
              · rcases qif_el E with E | E
                · exact qsome_f (Q := fun z => qfr wz h ((fun z : Int32 × qa_M => z.2) z)) E e_h
                · rcases qif_el E with E | E
                  · obtain ⟨-, E⟩ := qck_el E
                    exact qsome_f (Q := fun z => qfr wz h ((fun z : Int32 × qa_M => z.2) z)) E e_h
                  · rcases qif_el E with E | E
                    · obtain ⟨-, E⟩ := qck_el E
                      exact qsome_f (Q := fun z => qfr wz h ((fun z : Int32 × qa_M => z.2) z)) E e_h
                    · rcases qif_el E with E | E
                      · exact qsome_f (Q := fun z => qfr wz h ((fun z : Int32 × qa_M => z.2) z)) E e_h
                      · exact qsome_f (Q := fun z => qfr wz h ((fun z : Int32 × qa_M => z.2) z)) E e_h
def wf_X12_carry_b42 : List (Nat × Nat) := [(119, 63)]
theorem fr_X12_carry_b42 (a1 : Nat) (x2 : Int32) (h : qa_M) {z : ((Int32 × qa_M) ⊕ qa_M)} (E : f_X12_carry_b42 a1 x2 h = some z) : qfr wf_X12_carry_b42 h ((Sum.elim (fun z : Int32 × qa_M => z.2) (fun z : qa_M => z)) z) := by
  unfold f_X12_carry_b42 at E
  have e_h : qfr wf_X12_carry_b42 h h := qfr_rf
  obtain ⟨h49, q_h49, E⟩ := qbd_el E
  have e_h49 := qfr_Ik q_h49 (List.mem_of_getElem? (i := 0) rfl) e_h
  obtain ⟨v52, -, E⟩ := qbd_el E
  exact qsome_f (Q := fun z => qfr wf_X12_carry_b42 h ((Sum.elim (fun z : Int32 × qa_M => z.2) (fun z : qa_M => z)) z)) E e_h49
def wf_X12_carry_b2 (a1 : Nat) : List (Nat × Nat) := [(119, 63), (165, 0), (a1, 0)]
theorem fr_X12_carry_b2 (a1 : Nat) (x2 : Int32) (h : qa_M) {z : ((Int32 × qa_M) ⊕ qa_M)} (E : f_X12_carry_b2 a1 x2 h = some z) : qfr (wf_X12_carry_b2 a1) h ((Sum.elim (fun z : Int32 × qa_M => z.2) (fun z : qa_M => z)) z) := by
  unfold f_X12_carry_b2 at E
  have e_h : qfr (wf_X12_carry_b2 a1) h h := qfr_rf
  obtain ⟨n4, -, E⟩ := qal_el E
  rcases qif_el E with E | E
  · refine qup_f (Q := fun z => qfr (wf_X12_carry_b2 a1) h ((Sum.elim (fun z : Int32 × qa_M => z.2) (fun z : qa_M => z)) z)) E (fun rz E => ?_)
    exact qsome_f (Q := fun z => qfr (wf_X12_carry_b2 a1) h ((fun z : qa_M => z) z)) E e_h
  · rcases qif_el E with E | E
    · obtain ⟨n40, -, E⟩ := qal_el E
      obtain ⟨-, E⟩ := qck_el E
      obtain ⟨-, E⟩ := qck_el E
      obtain ⟨h41, q_h41, E⟩ := qbd_el E
      have e_h41 := qfr_I0 q_h41 (List.mem_of_getElem? (i := 1) rfl) e_h
      exact qfr_tr e_h41 (qfr_sub (qsub_c (List.mem_of_getElem? (i := 0) rfl) qsub_nil) (fr_X12_carry_b42 a1 x2 h41 E))
    · obtain ⟨-, E⟩ := qck_el E
      obtain ⟨n26, -, E⟩ := qal_el E
      obtain ⟨-, E⟩ := qck_el E
      obtain ⟨h26, q_h26, E⟩ := qbd_el E
      have e_h26 := qfr_I0 q_h26 (List.mem_of_getElem? (i := 2) rfl) e_h
      exact qfr_tr e_h26 (qfr_sub (qsub_c (List.mem_of_getElem? (i := 0) rfl) qsub_nil) (fr_X12_carry_b42 a1 x2 h26 E))
theorem fr_X12_carry_b2_loop (a1 : Nat) (x2 : Int32) (h : qa_M) {z : qa_M} (E : f_X12_carry_b2_loop a1 x2 h = some z) : qfr (wf_X12_carry_b2 a1) h ((fun z : qa_M => z) z) :=
  qlp_ind (fun sz : Int32 × qa_M => qfr (wf_X12_carry_b2 a1) (sz.2) ((fun z : qa_M => z) z)) (fun sz E => fr_X12_carry_b2 a1 sz.1 sz.2 E) (fun sz sz2 E ih => qfr_tr (fr_X12_carry_b2 a1 sz.1 sz.2 E) ih) (x2, h) E
def w_X12_carry (a1 : Nat) : List (Nat × Nat) := [(119, 63), (165, 0), (a1, 0)]
theorem fr_X12_carry (a1 : Nat) (h : qa_M) {z : qa_M} (E : m_X12_carry a1 h = some z) : qfr (w_X12_carry a1) h ((fun z : qa_M => z) z) := by
  unfold m_X12_carry at E
  have e_h : qfr (w_X12_carry a1) h h := qfr_rf
  obtain ⟨v1, -, E⟩ := qbd_el E
  exact qfr_tr e_h (qfr_sub (qsub_c (List.mem_of_getElem? (i := 0) rfl) (qsub_c (List.mem_of_getElem? (i := 1) rfl) (qsub_c (List.mem_of_getElem? (i := 2) rfl) qsub_nil))) (fr_X12_carry_b2_loop a1 v1 h E))
def w_X12_carriesAll : List (Nat × Nat) := [(119, 63), (119, 64), (120, 0), (121, 0), (122, 0), (123, 0), (124, 0), (125, 0), (126, 0), (127, 0), (128, 0), (129, 0), (130, 0), (131, 0), (165, 0)]
theorem fr_X12_carriesAll (x1 : Int32) (x2 : Int32) (h : qa_M) {z : qa_M} (E : m_X12_carriesAll x1 x2 h = some z) : qfr w_X12_carriesAll h ((fun z : qa_M => z) z) := by
  unfold m_X12_carriesAll at E
  have e_h : qfr w_X12_carriesAll h h := qfr_rf
  obtain ⟨h6, q_h6, E⟩ := qbd_el E
  have e_h6 := qfr_Ik q_h6 (List.mem_of_getElem? (i := 0) rfl) e_h
  obtain ⟨-, E⟩ := qpr_el E
  obtain ⟨h11, q_h11, E⟩ := qbd_el E
  have e_h11 := qfr_Ik q_h11 (List.mem_of_getElem? (i := 1) rfl) e_h6
  obtain ⟨h19, E0, E⟩ := qbv_el E
  have e_h19 := qfr_tr e_h11 (qfr_sub (qsub_c (List.mem_of_getElem? (i := 0) rfl) (qsub_c (List.mem_of_getElem? (i := 14) rfl) (qsub_c (List.mem_of_getElem? (i := 2) rfl) qsub_nil))) (fr_X12_carry 120 h11 E0))
  obtain ⟨h27, E0, E⟩ := qbv_el E
  have e_h27 := qfr_tr e_h19 (qfr_sub (qsub_c (List.mem_of_getElem? (i := 0) rfl) (qsub_c (List.mem_of_getElem? (i := 14) rfl) (qsub_c (List.mem_of_getElem? (i := 3) rfl) qsub_nil))) (fr_X12_carry 121 h19 E0))
  obtain ⟨h35, E0, E⟩ := qbv_el E
  have e_h35 := qfr_tr e_h27 (qfr_sub (qsub_c (List.mem_of_getElem? (i := 0) rfl) (qsub_c (List.mem_of_getElem? (i := 14) rfl) (qsub_c (List.mem_of_getElem? (i := 4) rfl) qsub_nil))) (fr_X12_carry 122 h27 E0))
  obtain ⟨h43, E0, E⟩ := qbv_el E
  have e_h43 := qfr_tr e_h35 (qfr_sub (qsub_c (List.mem_of_getElem? (i := 0) rfl) (qsub_c (List.mem_of_getElem? (i := 14) rfl) (qsub_c (List.mem_of_getElem? (i := 5) rfl) qsub_nil))) (fr_X12_carry 123 h35 E0))
  obtain ⟨h51, E0, E⟩ := qbv_el E
  have e_h51 := qfr_tr e_h43 (qfr_sub (qsub_c (List.mem_of_getElem? (i := 0) rfl) (qsub_c (List.mem_of_getElem? (i := 14) rfl) (qsub_c (List.mem_of_getElem? (i := 6) rfl) qsub_nil))) (fr_X12_carry 124 h43 E0))
  obtain ⟨h59, E0, E⟩ := qbv_el E
  have e_h59 := qfr_tr e_h51 (qfr_sub (qsub_c (List.mem_of_getElem? (i := 0) rfl) (qsub_c (List.mem_of_getElem? (i := 14) rfl) (qsub_c (List.mem_of_getElem? (i := 7) rfl) qsub_nil))) (fr_X12_carry 125 h51 E0))
  obtain ⟨h67, E0, E⟩ := qbv_el E
  have e_h67 := qfr_tr e_h59 (qfr_sub (qsub_c (List.mem_of_getElem? (i := 0) rfl) (qsub_c (List.mem_of_getElem? (i := 14) rfl) (qsub_c (List.mem_of_getElem? (i := 8) rfl) qsub_nil))) (fr_X12_carry 126 h59 E0))
  obtain ⟨h75, E0, E⟩ := qbv_el E
  have e_h75 := qfr_tr e_h67 (qfr_sub (qsub_c (List.mem_of_getElem? (i := 0) rfl) (qsub_c (List.mem_of_getElem? (i := 14) rfl) (qsub_c (List.mem_of_getElem? (i := 9) rfl) qsub_nil))) (fr_X12_carry 127 h67 E0))
  obtain ⟨h83, E0, E⟩ := qbv_el E
  have e_h83 := qfr_tr e_h75 (qfr_sub (qsub_c (List.mem_of_getElem? (i := 0) rfl) (qsub_c (List.mem_of_getElem? (i := 14) rfl) (qsub_c (List.mem_of_getElem? (i := 10) rfl) qsub_nil))) (fr_X12_carry 128 h75 E0))
  obtain ⟨h91, E0, E⟩ := qbv_el E
  have e_h91 := qfr_tr e_h83 (qfr_sub (qsub_c (List.mem_of_getElem? (i := 0) rfl) (qsub_c (List.mem_of_getElem? (i := 14) rfl) (qsub_c (List.mem_of_getElem? (i := 11) rfl) qsub_nil))) (fr_X12_carry 129 h83 E0))
  obtain ⟨h99, E0, E⟩ := qbv_el E
  have e_h99 := qfr_tr e_h91 (qfr_sub (qsub_c (List.mem_of_getElem? (i := 0) rfl) (qsub_c (List.mem_of_getElem? (i := 14) rfl) (qsub_c (List.mem_of_getElem? (i := 12) rfl) qsub_nil))) (fr_X12_carry 130 h91 E0))
  obtain ⟨h107, E0, E⟩ := qbv_el E
  have e_h107 := qfr_tr e_h99 (qfr_sub (qsub_c (List.mem_of_getElem? (i := 0) rfl) (qsub_c (List.mem_of_getElem? (i := 14) rfl) (qsub_c (List.mem_of_getElem? (i := 13) rfl) qsub_nil))) (fr_X12_carry 131 h99 E0))
  exact qsome_f (Q := fun z => qfr w_X12_carriesAll h ((fun z : qa_M => z) z)) E e_h107
def w_X12_image : List (Nat × Nat) := [(119, 63), (119, 64), (120, 0), (121, 0), (122, 0), (123, 0), (124, 0), (125, 0), (126, 0), (127, 0), (128, 0), (129, 0), (130, 0), (131, 0), (165, 0), (166, 0)]
theorem fr_X12_image (x1 : Int32) (h : qa_M) {z : (Int32 × qa_M)} (E : m_X12_image x1 h = some z) : qfr w_X12_image h ((fun z : Int32 × qa_M => z.2) z) := by
  unfold m_X12_image at E
  have e_h : qfr w_X12_image h h := qfr_rf
  obtain ⟨c6, h6, E0, E⟩ := qbn_el E
  have e_h6 := qfr_tr e_h (qfr_sub qsub_nil (fr_X12_in x1.toInt64 (0 : Int64) (3 : Int64) h E0))
  rcases qif_el E with E | E
  · exact qsome_f (Q := fun z => qfr w_X12_image h ((fun z : Int32 × qa_M => z.2) z)) E e_h6
  · obtain ⟨-, E⟩ := qck_el E
    obtain ⟨h20, q_h20, E⟩ := qbd_el E
    have e_h20 := qfr_I0 q_h20 (List.mem_of_getElem? (i := 15) rfl) e_h6
    obtain ⟨h24, E0, E⟩ := qbv_el E
    have e_h24 := qfr_tr e_h20 (qfr_sub (qsub_c (List.mem_of_getElem? (i := 0) rfl) (qsub_c (List.mem_of_getElem? (i := 1) rfl) (qsub_c (List.mem_of_getElem? (i := 2) rfl) (qsub_c (List.mem_of_getElem? (i := 3) rfl) (qsub_c (List.mem_of_getElem? (i := 4) rfl) (qsub_c (List.mem_of_getElem? (i := 5) rfl) (qsub_c (List.mem_of_getElem? (i := 6) rfl) (qsub_c (List.mem_of_getElem? (i := 7) rfl) (qsub_c (List.mem_of_getElem? (i := 8) rfl) (qsub_c (List.mem_of_getElem? (i := 9) rfl) (qsub_c (List.mem_of_getElem? (i := 10) rfl) (qsub_c (List.mem_of_getElem? (i := 11) rfl) (qsub_c (List.mem_of_getElem? (i := 12) rfl) (qsub_c (List.mem_of_getElem? (i := 13) rfl) (qsub_c (List.mem_of_getElem? (i := 14) rfl) qsub_nil))))))))))))))) (fr_X12_carriesAll x1 (0 : Int32) h20 E0))
    obtain ⟨-, E⟩ := qck_el E
    exact qsome_f (Q := fun z => qfr w_X12_image h ((fun z : Int32 × qa_M => z.2) z)) E e_h24
def w_X12_back : List (Nat × Nat) := [(119, 63), (119, 64), (120, 0), (121, 0), (122, 0), (123, 0), (124, 0), (125, 0), (126, 0), (127, 0), (128, 0), (129, 0), (130, 0), (131, 0), (165, 0)]
theorem fr_X12_back (x1 : Int32) (h : qa_M) {z : (Int32 × qa_M)} (E : m_X12_back x1 h = some z) : qfr w_X12_back h ((fun z : Int32 × qa_M => z.2) z) := by
  unfold m_X12_back at E
  have e_h : qfr w_X12_back h h := qfr_rf
  obtain ⟨c6, h6, E0, E⟩ := qbn_el E
  have e_h6 := qfr_tr e_h (qfr_sub qsub_nil (fr_X12_in x1.toInt64 (0 : Int64) (3 : Int64) h E0))
  rcases qif_el E with E | E
  · exact qsome_f (Q := fun z => qfr w_X12_back h ((fun z : Int32 × qa_M => z.2) z)) E e_h6
  · obtain ⟨-, E⟩ := qck_el E
    rcases qif_el E with E | E
    · exact qsome_f (Q := fun z => qfr w_X12_back h ((fun z : Int32 × qa_M => z.2) z)) E e_h6
    · obtain ⟨h26, E0, E⟩ := qbv_el E
      have e_h26 := qfr_tr e_h6 (qfr_sub (qsub_c (List.mem_of_getElem? (i := 0) rfl) (qsub_c (List.mem_of_getElem? (i := 1) rfl) (qsub_c (List.mem_of_getElem? (i := 2) rfl) (qsub_c (List.mem_of_getElem? (i := 3) rfl) (qsub_c (List.mem_of_getElem? (i := 4) rfl) (qsub_c (List.mem_of_getElem? (i := 5) rfl) (qsub_c (List.mem_of_getElem? (i := 6) rfl) (qsub_c (List.mem_of_getElem? (i := 7) rfl) (qsub_c (List.mem_of_getElem? (i := 8) rfl) (qsub_c (List.mem_of_getElem? (i := 9) rfl) (qsub_c (List.mem_of_getElem? (i := 10) rfl) (qsub_c (List.mem_of_getElem? (i := 11) rfl) (qsub_c (List.mem_of_getElem? (i := 12) rfl) (qsub_c (List.mem_of_getElem? (i := 13) rfl) (qsub_c (List.mem_of_getElem? (i := 14) rfl) qsub_nil))))))))))))))) (fr_X12_carriesAll x1 (1 : Int32) h6 E0))
      obtain ⟨-, E⟩ := qck_el E
      exact qsome_f (Q := fun z => qfr w_X12_back h ((fun z : Int32 × qa_M => z.2) z)) E e_h26
