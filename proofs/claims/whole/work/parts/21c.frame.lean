theorem fr_X12_sum_b4_loop (h : qa_M) {z : qa_M} (E : f_X12_sum_b4_loop h = some z) : qfr wf_X12_sum_b4 h ((fun z : qa_M => z) z) :=
  qlp_ind (fun sz : qa_M => qfr wf_X12_sum_b4 (sz) ((fun z : qa_M => z) z)) (fun sz E => fr_X12_sum_b4 sz E) (fun sz sz2 E ih => qfr_tr (fr_X12_sum_b4 sz E) ih) h E
def w_X12_sum : List (Nat × Nat) := [(119, 22), (119, 23), (119, 26), (119, 28), (140, 0), (141, 0)]
theorem fr_X12_sum (h : qa_M) {z : qa_M} (E : m_X12_sum h = some z) : qfr w_X12_sum h ((fun z : qa_M => z) z) := by
  unfold m_X12_sum at E
  have e_h : qfr w_X12_sum h h := qfr_rf
  obtain ⟨h1, E0, E⟩ := qbv_el E
  have e_h1 := qfr_tr e_h (qfr_sub (qsub_c (List.mem_of_getElem? (i := 0) rfl) (qsub_c (List.mem_of_getElem? (i := 1) rfl) (qsub_c (List.mem_of_getElem? (i := 2) rfl) (qsub_c (List.mem_of_getElem? (i := 3) rfl) (qsub_c (List.mem_of_getElem? (i := 4) rfl) (qsub_c (List.mem_of_getElem? (i := 5) rfl) qsub_nil)))))) (fr_X12_term h E0))
  exact qfr_tr e_h1 (qfr_sub (qsub_c (List.mem_of_getElem? (i := 0) rfl) (qsub_c (List.mem_of_getElem? (i := 1) rfl) (qsub_c (List.mem_of_getElem? (i := 2) rfl) (qsub_c (List.mem_of_getElem? (i := 3) rfl) (qsub_c (List.mem_of_getElem? (i := 4) rfl) (qsub_c (List.mem_of_getElem? (i := 5) rfl) qsub_nil)))))) (fr_X12_sum_b4_loop h1 E))
def wf_X12_compared_b139 : List (Nat × Nat) := [(119, 26), (140, 0), (141, 0)]
theorem fr_X12_compared_b139 (s1 : Int32) (h : qa_M) {z : qa_M} (E : f_X12_compared_b139 s1 h = some z) : qfr wf_X12_compared_b139 h ((fun z : qa_M => z) z) := by
  unfold f_X12_compared_b139 at E
  have e_h : qfr wf_X12_compared_b139 h h := qfr_rf
  obtain ⟨h140, E0, E⟩ := qbv_el E
  have e_h140 := qfr_tr e_h (qfr_sub (qsub_c (List.mem_of_getElem? (i := 0) rfl) (qsub_c (List.mem_of_getElem? (i := 1) rfl) (qsub_c (List.mem_of_getElem? (i := 2) rfl) qsub_nil))) (fr_X12_entry s1 (0 : Int32) h E0))
  exact qsome_f (Q := fun z => qfr wf_X12_compared_b139 h ((fun z : qa_M => z) z)) E e_h140
def wf_X12_compared_b90 : List (Nat × Nat) := [(119, 22), (119, 23), (119, 26), (119, 28), (140, 0), (141, 0)]
theorem fr_X12_compared_b90 (x1 : Int32) (x2 : Int32) (s1 : Int32) (s2 : Int32) (h : qa_M) {z : qa_M} (E : f_X12_compared_b90 x1 x2 s1 s2 h = some z) : qfr wf_X12_compared_b90 h ((fun z : qa_M => z) z) := by
  unfold f_X12_compared_b90 at E
  have e_h : qfr wf_X12_compared_b90 h h := qfr_rf
  obtain ⟨h91, q_h91, E⟩ := qbd_el E
  have e_h91 := qfr_Ik q_h91 (List.mem_of_getElem? (i := 0) rfl) e_h
  obtain ⟨h95, E0, E⟩ := qbv_el E
  have e_h95 := qfr_tr e_h91 (qfr_sub (qsub_c (List.mem_of_getElem? (i := 0) rfl) (qsub_c (List.mem_of_getElem? (i := 1) rfl) (qsub_c (List.mem_of_getElem? (i := 2) rfl) (qsub_c (List.mem_of_getElem? (i := 3) rfl) (qsub_c (List.mem_of_getElem? (i := 4) rfl) (qsub_c (List.mem_of_getElem? (i := 5) rfl) qsub_nil)))))) (fr_X12_sum h91 E0))
  rcases qif_el E with E | E
  · exact qfr_tr e_h95 (qfr_sub (qsub_c (List.mem_of_getElem? (i := 2) rfl) (qsub_c (List.mem_of_getElem? (i := 4) rfl) (qsub_c (List.mem_of_getElem? (i := 5) rfl) qsub_nil))) (fr_X12_compared_b139 (6 : Int32) h95 E))
  · rcases qif_el E with E | E
    · rcases qif_el E with E | E
      · exact qfr_tr e_h95 (qfr_sub (qsub_c (List.mem_of_getElem? (i := 2) rfl) (qsub_c (List.mem_of_getElem? (i := 4) rfl) (qsub_c (List.mem_of_getElem? (i := 5) rfl) qsub_nil))) (fr_X12_compared_b139 (4 : Int32) h95 E))
      · exact qfr_tr e_h95 (qfr_sub (qsub_c (List.mem_of_getElem? (i := 2) rfl) (qsub_c (List.mem_of_getElem? (i := 4) rfl) (qsub_c (List.mem_of_getElem? (i := 5) rfl) qsub_nil))) (fr_X12_compared_b139 (5 : Int32) h95 E))
    · rcases qif_el E with E | E
      · exact qfr_tr e_h95 (qfr_sub (qsub_c (List.mem_of_getElem? (i := 2) rfl) (qsub_c (List.mem_of_getElem? (i := 4) rfl) (qsub_c (List.mem_of_getElem? (i := 5) rfl) qsub_nil))) (fr_X12_compared_b139 (8 : Int32) h95 E))
      · exact qfr_tr e_h95 (qfr_sub (qsub_c (List.mem_of_getElem? (i := 2) rfl) (qsub_c (List.mem_of_getElem? (i := 4) rfl) (qsub_c (List.mem_of_getElem? (i := 5) rfl) qsub_nil))) (fr_X12_compared_b139 (7 : Int32) h95 E))
def wf_X12_compared_b75 : List (Nat × Nat) := [(119, 22), (119, 23), (119, 26), (119, 28), (140, 0), (141, 0)]
theorem fr_X12_compared_b75 (x1 : Int32) (s0 : Int32) (h : qa_M) {z : qa_M} (E : f_X12_compared_b75 x1 s0 h = some z) : qfr wf_X12_compared_b75 h ((fun z : qa_M => z) z) := by
  unfold f_X12_compared_b75 at E
  have e_h : qfr wf_X12_compared_b75 h h := qfr_rf
  obtain ⟨v75, -, E⟩ := qbd_el E
  rcases qif_el E with E | E
  · exact qfr_tr e_h (qfr_sub (qsub_c (List.mem_of_getElem? (i := 0) rfl) (qsub_c (List.mem_of_getElem? (i := 1) rfl) (qsub_c (List.mem_of_getElem? (i := 2) rfl) (qsub_c (List.mem_of_getElem? (i := 3) rfl) (qsub_c (List.mem_of_getElem? (i := 4) rfl) (qsub_c (List.mem_of_getElem? (i := 5) rfl) qsub_nil)))))) (fr_X12_compared_b90 x1 v75 (h.1 119 21) (0 : Int32) h E))
  · exact qfr_tr e_h (qfr_sub (qsub_c (List.mem_of_getElem? (i := 0) rfl) (qsub_c (List.mem_of_getElem? (i := 1) rfl) (qsub_c (List.mem_of_getElem? (i := 2) rfl) (qsub_c (List.mem_of_getElem? (i := 3) rfl) (qsub_c (List.mem_of_getElem? (i := 4) rfl) (qsub_c (List.mem_of_getElem? (i := 5) rfl) qsub_nil)))))) (fr_X12_compared_b90 x1 v75 (h.1 119 21) (1 : Int32) h E))
def wf_X12_compared_b74 : List (Nat × Nat) := [(119, 22), (119, 23), (119, 26), (119, 28), (140, 0), (141, 0)]
theorem fr_X12_compared_b74 (x1 : Int32) (h : qa_M) {z : qa_M} (E : f_X12_compared_b74 x1 h = some z) : qfr wf_X12_compared_b74 h ((fun z : qa_M => z) z) := by
  unfold f_X12_compared_b74 at E
  have e_h : qfr wf_X12_compared_b74 h h := qfr_rf
  exact qfr_tr e_h (qfr_sub (qsub_c (List.mem_of_getElem? (i := 0) rfl) (qsub_c (List.mem_of_getElem? (i := 1) rfl) (qsub_c (List.mem_of_getElem? (i := 2) rfl) (qsub_c (List.mem_of_getElem? (i := 3) rfl) (qsub_c (List.mem_of_getElem? (i := 4) rfl) (qsub_c (List.mem_of_getElem? (i := 5) rfl) qsub_nil)))))) (fr_X12_compared_b75 x1 (0 : Int32) h E))
def wf_X12_compared_b37 : List (Nat × Nat) := [(119, 22), (119, 23), (119, 26), (119, 28), (140, 0), (141, 0)]
theorem fr_X12_compared_b37 (x1 : Int32) (h : qa_M) {z : qa_M} (E : f_X12_compared_b37 x1 h = some z) : qfr wf_X12_compared_b37 h ((fun z : qa_M => z) z) := by
  unfold f_X12_compared_b37 at E
  have e_h : qfr wf_X12_compared_b37 h h := qfr_rf
  obtain ⟨h42, E0, E⟩ := qbv_el E
  have e_h42 := qfr_tr e_h (qfr_sub (qsub_c (List.mem_of_getElem? (i := 1) rfl) (qsub_c (List.mem_of_getElem? (i := 3) rfl) qsub_nil)) (fr_X12_isCounted (h.1 119 21) h E0))
  obtain ⟨h52, q_h52, E⟩ := qbd_el E
  have e_h52 := qfr_Ik q_h52 (List.mem_of_getElem? (i := 0) rfl) e_h42
  rcases qif_el E with E | E
  · exact qfr_tr e_h52 (qfr_sub (qsub_c (List.mem_of_getElem? (i := 0) rfl) (qsub_c (List.mem_of_getElem? (i := 1) rfl) (qsub_c (List.mem_of_getElem? (i := 2) rfl) (qsub_c (List.mem_of_getElem? (i := 3) rfl) (qsub_c (List.mem_of_getElem? (i := 4) rfl) (qsub_c (List.mem_of_getElem? (i := 5) rfl) qsub_nil)))))) (fr_X12_compared_b74 x1 h52 E))
  · obtain ⟨c62, h62, E0, E⟩ := qbn_el E
    have e_h62 := qfr_tr e_h52 (qfr_sub qsub_nil (fr_X12_sign h52 E0))
    rcases qif_el E with E | E
    · exact qfr_tr e_h62 (qfr_sub (qsub_c (List.mem_of_getElem? (i := 0) rfl) (qsub_c (List.mem_of_getElem? (i := 1) rfl) (qsub_c (List.mem_of_getElem? (i := 2) rfl) (qsub_c (List.mem_of_getElem? (i := 3) rfl) (qsub_c (List.mem_of_getElem? (i := 4) rfl) (qsub_c (List.mem_of_getElem? (i := 5) rfl) qsub_nil)))))) (fr_X12_compared_b75 x1 (1 : Int32) h62 E))
    · exact qfr_tr e_h62 (qfr_sub (qsub_c (List.mem_of_getElem? (i := 0) rfl) (qsub_c (List.mem_of_getElem? (i := 1) rfl) (qsub_c (List.mem_of_getElem? (i := 2) rfl) (qsub_c (List.mem_of_getElem? (i := 3) rfl) (qsub_c (List.mem_of_getElem? (i := 4) rfl) (qsub_c (List.mem_of_getElem? (i := 5) rfl) qsub_nil)))))) (fr_X12_compared_b74 x1 h62 E))
def w_X12_compared : List (Nat × Nat) := [(119, 22), (119, 23), (119, 26), (119, 28), (140, 0), (141, 0)]
theorem fr_X12_compared (h : qa_M) {z : qa_M} (E : m_X12_compared h = some z) : qfr w_X12_compared h ((fun z : qa_M => z) z) := by
  unfold m_X12_compared at E
  have e_h : qfr w_X12_compared h h := qfr_rf
  obtain ⟨h1, E0, E⟩ := qbv_el E
  have e_h1 := qfr_tr e_h (qfr_sub (qsub_c (List.mem_of_getElem? (i := 0) rfl) (qsub_c (List.mem_of_getElem? (i := 1) rfl) (qsub_c (List.mem_of_getElem? (i := 2) rfl) (qsub_c (List.mem_of_getElem? (i := 3) rfl) (qsub_c (List.mem_of_getElem? (i := 4) rfl) (qsub_c (List.mem_of_getElem? (i := 5) rfl) qsub_nil)))))) (fr_X12_sum h E0))
  obtain ⟨c5, h5, E0, E⟩ := qbn_el E
  have e_h5 := qfr_tr e_h1 (qfr_sub qsub_nil (fr_X12_sign h1 E0))
  obtain ⟨v8, -, E⟩ := qbd_el E
  rcases qif_el E with E | E
  · exact qfr_tr e_h5 (qfr_sub (qsub_c (List.mem_of_getElem? (i := 0) rfl) (qsub_c (List.mem_of_getElem? (i := 1) rfl) (qsub_c (List.mem_of_getElem? (i := 2) rfl) (qsub_c (List.mem_of_getElem? (i := 3) rfl) (qsub_c (List.mem_of_getElem? (i := 4) rfl) (qsub_c (List.mem_of_getElem? (i := 5) rfl) qsub_nil)))))) (fr_X12_compared_b37 v8 h5 E))
  · rcases qif_el E with E | E
    · exact qfr_tr e_h5 (qfr_sub (qsub_c (List.mem_of_getElem? (i := 0) rfl) (qsub_c (List.mem_of_getElem? (i := 1) rfl) (qsub_c (List.mem_of_getElem? (i := 2) rfl) (qsub_c (List.mem_of_getElem? (i := 3) rfl) (qsub_c (List.mem_of_getElem? (i := 4) rfl) (qsub_c (List.mem_of_getElem? (i := 5) rfl) qsub_nil)))))) (fr_X12_compared_b37 v8 h5 E))
    · rcases qif_el E with E | E
      · exact qfr_tr e_h5 (qfr_sub (qsub_c (List.mem_of_getElem? (i := 0) rfl) (qsub_c (List.mem_of_getElem? (i := 1) rfl) (qsub_c (List.mem_of_getElem? (i := 2) rfl) (qsub_c (List.mem_of_getElem? (i := 3) rfl) (qsub_c (List.mem_of_getElem? (i := 4) rfl) (qsub_c (List.mem_of_getElem? (i := 5) rfl) qsub_nil)))))) (fr_X12_compared_b37 v8 h5 E))
      · obtain ⟨h33, E0, E⟩ := qbv_el E
        have e_h33 := qfr_tr e_h5 (qfr_sub (qsub_c (List.mem_of_getElem? (i := 1) rfl) qsub_nil) (fr_X12_fails (0 : Int32) (h5.1 119 21) h5 E0))
        exact qsome_f (Q := fun z => qfr w_X12_compared h ((fun z : qa_M => z) z)) E e_h33
def w_X12_fact : List (Nat × Nat) := [(119, 22), (119, 23), (119, 26), (119, 27), (119, 28), (119, 29), (140, 0), (141, 0), (148, 0)]
theorem fr_X12_fact (h : qa_M) {z : (Int32 × qa_M)} (E : m_X12_fact h = some z) : qfr w_X12_fact h ((fun z : Int32 × qa_M => z.2) z) := by
  unfold m_X12_fact at E
  have e_h : qfr w_X12_fact h h := qfr_rf
  obtain ⟨h1, E0, E⟩ := qbv_el E
  have e_h1 := qfr_tr e_h (qfr_sub (qsub_c (List.mem_of_getElem? (i := 0) rfl) qsub_nil) (fr_X12_blanks h E0))
  obtain ⟨c8, h8, E0, E⟩ := qbn_el E
  have e_h8 := qfr_tr e_h1 (qfr_sub qsub_nil (fr_X12_stood 2 h1 E0))
  rcases qif_el E with E | E
  · obtain ⟨c33, h33, E0, E⟩ := qbn_el E
    have e_h33 := qfr_tr e_h8 (qfr_sub qsub_nil (fr_X12_sign h8 E0))
    rcases qif_el E with E | E
    · obtain ⟨h44, E0, E⟩ := qbv_el E
      have e_h44 := qfr_tr e_h33 (qfr_sub (qsub_c (List.mem_of_getElem? (i := 1) rfl) (qsub_c (List.mem_of_getElem? (i := 3) rfl) (qsub_c (List.mem_of_getElem? (i := 5) rfl) (qsub_c (List.mem_of_getElem? (i := 8) rfl) qsub_nil)))) (fr_X12_opens (12 : Int32) h33 E0))
      obtain ⟨h54, q_h54, E⟩ := qbd_el E
      have e_h54 := qfr_Ik q_h54 (List.mem_of_getElem? (i := 0) rfl) e_h44
      exact qsome_f (Q := fun z => qfr w_X12_fact h ((fun z : Int32 × qa_M => z.2) z)) E e_h54
    · obtain ⟨h60, E0, E⟩ := qbv_el E
      have e_h60 := qfr_tr e_h33 (qfr_sub (qsub_c (List.mem_of_getElem? (i := 0) rfl) (qsub_c (List.mem_of_getElem? (i := 1) rfl) (qsub_c (List.mem_of_getElem? (i := 2) rfl) (qsub_c (List.mem_of_getElem? (i := 4) rfl) (qsub_c (List.mem_of_getElem? (i := 6) rfl) (qsub_c (List.mem_of_getElem? (i := 7) rfl) qsub_nil)))))) (fr_X12_compared h33 E0))
      exact qsome_f (Q := fun z => qfr w_X12_fact h ((fun z : Int32 × qa_M => z.2) z)) E e_h60
  · obtain ⟨h17, E0, E⟩ := qbv_el E
    have e_h17 := qfr_tr e_h8 (qfr_sub (qsub_c (List.mem_of_getElem? (i := 1) rfl) (qsub_c (List.mem_of_getElem? (i := 3) rfl) (qsub_c (List.mem_of_getElem? (i := 5) rfl) (qsub_c (List.mem_of_getElem? (i := 8) rfl) qsub_nil)))) (fr_X12_opens (9 : Int32) h8 E0))
    obtain ⟨h27, q_h27, E⟩ := qbd_el E
    have e_h27 := qfr_Ik q_h27 (List.mem_of_getElem? (i := 0) rfl) e_h17
    exact qsome_f (Q := fun z => qfr w_X12_fact h ((fun z : Int32 × qa_M => z.2) z)) E e_h27
theorem fr_X12_top (h : qa_M) {z : (Int32 × qa_M)} (E : m_X12_top h = some z) : qfr wz h ((fun z : Int32 × qa_M => z.2) z) := by
  unfold m_X12_top at E
  have e_h : qfr wz h h := qfr_rf
  rcases qif_el E with E | E
  · exact qsome_f (Q := fun z => qfr wz h ((fun z : Int32 × qa_M => z.2) z)) E e_h
  · obtain ⟨-, E⟩ := qck_el E
    exact qsome_f (Q := fun z => qfr wz h ((fun z : Int32 × qa_M => z.2) z)) E e_h
def wf_X12_answers_b47 : List (Nat × Nat) := [(119, 27)]
theorem fr_X12_answers_b47 (x1 : Int32) (s1 : Int32) (s2 : Int32) (h : qa_M) {z : ((Int32 × qa_M) ⊕ qa_M)} (E : f_X12_answers_b47 x1 s1 s2 h = some z) : qfr wf_X12_answers_b47 h ((Sum.elim (fun z : Int32 × qa_M => z.2) (fun z : qa_M => z)) z) := by
  unfold f_X12_answers_b47 at E
  have e_h : qfr wf_X12_answers_b47 h h := qfr_rf
  obtain ⟨h48, q_h48, E⟩ := qbd_el E
  have e_h48 := qfr_Ik q_h48 (List.mem_of_getElem? (i := 0) rfl) e_h
  exact qsome_f (Q := fun z => qfr wf_X12_answers_b47 h ((Sum.elim (fun z : Int32 × qa_M => z.2) (fun z : qa_M => z)) z)) E e_h48
def wf_X12_answers_b0 : List (Nat × Nat) := [(119, 26), (119, 27), (119, 29), (140, 0), (141, 0)]
theorem fr_X12_answers_b0 (x1 : Int32) (h : qa_M) {z : ((Int32 × qa_M) ⊕ qa_M)} (E : f_X12_answers_b0 x1 h = some z) : qfr wf_X12_answers_b0 h ((Sum.elim (fun z : Int32 × qa_M => z.2) (fun z : qa_M => z)) z) := by
  unfold f_X12_answers_b0 at E
  have e_h : qfr wf_X12_answers_b0 h h := qfr_rf
  obtain ⟨c1, h1, E0, E⟩ := qbn_el E
  have e_h1 := qfr_tr e_h (qfr_sub qsub_nil (fr_X12_top h E0))
  rcases qif_el E with E | E
  · rcases qif_el E with E | E
    · obtain ⟨h18, E0, E⟩ := qbv_el E
      have e_h18 := qfr_tr e_h1 (qfr_sub (qsub_c (List.mem_of_getElem? (i := 0) rfl) (qsub_c (List.mem_of_getElem? (i := 3) rfl) (qsub_c (List.mem_of_getElem? (i := 4) rfl) qsub_nil))) (fr_X12_entry x1 (0 : Int32) h1 E0))
      obtain ⟨h28, q_h28, E⟩ := qbd_el E
      have e_h28 := qfr_Ik q_h28 (List.mem_of_getElem? (i := 2) rfl) e_h18
      rcases qif_el E with E | E
      · exact qfr_tr e_h28 (qfr_sub (qsub_c (List.mem_of_getElem? (i := 1) rfl) qsub_nil) (fr_X12_answers_b47 x1 (h28.1 119 26) (1 : Int32) h28 E))
      · exact qfr_tr e_h28 (qfr_sub (qsub_c (List.mem_of_getElem? (i := 1) rfl) qsub_nil) (fr_X12_answers_b47 x1 (h28.1 119 26) (0 : Int32) h28 E))
    · refine qup_f (Q := fun z => qfr wf_X12_answers_b0 h ((Sum.elim (fun z : Int32 × qa_M => z.2) (fun z : qa_M => z)) z)) E (fun rz E => ?_)
      exact qsome_f (Q := fun z => qfr wf_X12_answers_b0 h ((fun z : qa_M => z) z)) E e_h1
  · refine qup_f (Q := fun z => qfr wf_X12_answers_b0 h ((Sum.elim (fun z : Int32 × qa_M => z.2) (fun z : qa_M => z)) z)) E (fun rz E => ?_)
    exact qsome_f (Q := fun z => qfr wf_X12_answers_b0 h ((fun z : qa_M => z) z)) E e_h1
theorem fr_X12_answers_b0_loop (x1 : Int32) (h : qa_M) {z : qa_M} (E : f_X12_answers_b0_loop x1 h = some z) : qfr wf_X12_answers_b0 h ((fun z : qa_M => z) z) :=
  qlp_ind (fun sz : Int32 × qa_M => qfr wf_X12_answers_b0 (sz.2) ((fun z : qa_M => z) z)) (fun sz E => fr_X12_answers_b0 sz.1 sz.2 E) (fun sz sz2 E ih => qfr_tr (fr_X12_answers_b0 sz.1 sz.2 E) ih) (x1, h) E
def w_X12_answers : List (Nat × Nat) := [(119, 26), (119, 27), (119, 29), (140, 0), (141, 0)]
theorem fr_X12_answers (x1 : Int32) (h : qa_M) {z : qa_M} (E : m_X12_answers x1 h = some z) : qfr w_X12_answers h ((fun z : qa_M => z) z) := by
  unfold m_X12_answers at E
  have e_h : qfr w_X12_answers h h := qfr_rf
  exact qfr_tr e_h (qfr_sub (qsub_c (List.mem_of_getElem? (i := 0) rfl) (qsub_c (List.mem_of_getElem? (i := 1) rfl) (qsub_c (List.mem_of_getElem? (i := 2) rfl) (qsub_c (List.mem_of_getElem? (i := 3) rfl) (qsub_c (List.mem_of_getElem? (i := 4) rfl) qsub_nil))))) (fr_X12_answers_b0_loop x1 h E))
theorem fr_X12_test_b199 (x1 : Int32) (x2 : Int32) (h : qa_M) {z : ((Int32 × Int32 × qa_M) ⊕ qa_M)} (E : f_X12_test_b199 x1 x2 h = some z) : qfr wz h ((Sum.elim (fun z : Int32 × Int32 × qa_M => z.2.2) (fun z : qa_M => z)) z) := by
  unfold f_X12_test_b199 at E
  have e_h : qfr wz h h := qfr_rf
  exact qsome_f (Q := fun z => qfr wz h ((Sum.elim (fun z : Int32 × Int32 × qa_M => z.2.2) (fun z : qa_M => z)) z)) E e_h
def wf_X12_test_b122 : List (Nat × Nat) := [(119, 22)]
theorem fr_X12_test_b122 (x2 : Int32) (s1 : Int32) (s2 : Int32) (h : qa_M) {z : ((Int32 × Int32 × qa_M) ⊕ qa_M)} (E : f_X12_test_b122 x2 s1 s2 h = some z) : qfr wf_X12_test_b122 h ((Sum.elim (fun z : Int32 × Int32 × qa_M => z.2.2) (fun z : qa_M => z)) z) := by
  unfold f_X12_test_b122 at E
  have e_h : qfr wf_X12_test_b122 h h := qfr_rf
  obtain ⟨h123, q_h123, E⟩ := qbd_el E
  have e_h123 := qfr_Ik q_h123 (List.mem_of_getElem? (i := 0) rfl) e_h
  obtain ⟨v127, -, E⟩ := qbd_el E
  exact qfr_tr e_h123 (qfr_sub qsub_nil (fr_X12_test_b199 v127 x2 h123 E))
def wf_X12_test_b105 : List (Nat × Nat) := [(119, 22), (119, 23), (119, 27), (119, 29), (148, 0)]
theorem fr_X12_test_b105 (x2 : Int32) (x3 : Int32) (s1 : Int32) (h : qa_M) {z : ((Int32 × Int32 × qa_M) ⊕ qa_M)} (E : f_X12_test_b105 x2 x3 s1 h = some z) : qfr wf_X12_test_b105 h ((Sum.elim (fun z : Int32 × Int32 × qa_M => z.2.2) (fun z : qa_M => z)) z) := by
  unfold f_X12_test_b105 at E
  have e_h : qfr wf_X12_test_b105 h h := qfr_rf
  obtain ⟨h105, E0, E⟩ := qbv_el E
  have e_h105 := qfr_tr e_h (qfr_sub (qsub_c (List.mem_of_getElem? (i := 1) rfl) (qsub_c (List.mem_of_getElem? (i := 2) rfl) (qsub_c (List.mem_of_getElem? (i := 3) rfl) (qsub_c (List.mem_of_getElem? (i := 4) rfl) qsub_nil)))) (fr_X12_opens s1 h E0))
  rcases qif_el E with E | E
  · exact qfr_tr e_h105 (qfr_sub (qsub_c (List.mem_of_getElem? (i := 0) rfl) qsub_nil) (fr_X12_test_b122 x2 (h105.1 119 21) (2 : Int32) h105 E))
  · exact qfr_tr e_h105 (qfr_sub (qsub_c (List.mem_of_getElem? (i := 0) rfl) qsub_nil) (fr_X12_test_b122 x2 (h105.1 119 21) (3 : Int32) h105 E))
def wf_X12_test_b93 : List (Nat × Nat) := [(119, 22), (119, 23), (119, 27), (119, 29), (148, 0)]
theorem fr_X12_test_b93 (x2 : Int32) (x3 : Int32) (h : qa_M) {z : ((Int32 × Int32 × qa_M) ⊕ qa_M)} (E : f_X12_test_b93 x2 x3 h = some z) : qfr wf_X12_test_b93 h ((Sum.elim (fun z : Int32 × Int32 × qa_M => z.2.2) (fun z : qa_M => z)) z) := by
  unfold f_X12_test_b93 at E
  have e_h : qfr wf_X12_test_b93 h h := qfr_rf
  rcases qif_el E with E | E
  · exact qfr_tr e_h (qfr_sub (qsub_c (List.mem_of_getElem? (i := 0) rfl) (qsub_c (List.mem_of_getElem? (i := 1) rfl) (qsub_c (List.mem_of_getElem? (i := 2) rfl) (qsub_c (List.mem_of_getElem? (i := 3) rfl) (qsub_c (List.mem_of_getElem? (i := 4) rfl) qsub_nil))))) (fr_X12_test_b105 x2 x3 (11 : Int32) h E))
  · exact qfr_tr e_h (qfr_sub (qsub_c (List.mem_of_getElem? (i := 0) rfl) (qsub_c (List.mem_of_getElem? (i := 1) rfl) (qsub_c (List.mem_of_getElem? (i := 2) rfl) (qsub_c (List.mem_of_getElem? (i := 3) rfl) (qsub_c (List.mem_of_getElem? (i := 4) rfl) qsub_nil))))) (fr_X12_test_b105 x2 x3 (10 : Int32) h E))
def wf_X12_test_b82 : List (Nat × Nat) := [(119, 22), (119, 23), (119, 26), (119, 27), (119, 29), (140, 0), (141, 0), (148, 0)]
theorem fr_X12_test_b82 (x2 : Int32) (x3 : Int32) (x4 : Int32) (h : qa_M) {z : ((Int32 × Int32 × qa_M) ⊕ qa_M)} (E : f_X12_test_b82 x2 x3 x4 h = some z) : qfr wf_X12_test_b82 h ((Sum.elim (fun z : Int32 × Int32 × qa_M => z.2.2) (fun z : qa_M => z)) z) := by
  unfold f_X12_test_b82 at E
  have e_h : qfr wf_X12_test_b82 h h := qfr_rf
  rcases qif_el E with E | E
  · exact qfr_tr e_h (qfr_sub (qsub_c (List.mem_of_getElem? (i := 0) rfl) (qsub_c (List.mem_of_getElem? (i := 1) rfl) (qsub_c (List.mem_of_getElem? (i := 3) rfl) (qsub_c (List.mem_of_getElem? (i := 4) rfl) (qsub_c (List.mem_of_getElem? (i := 7) rfl) qsub_nil))))) (fr_X12_test_b93 x2 x3 h E))
  · obtain ⟨h90, E0, E⟩ := qbv_el E
    have e_h90 := qfr_tr e_h (qfr_sub (qsub_c (List.mem_of_getElem? (i := 2) rfl) (qsub_c (List.mem_of_getElem? (i := 3) rfl) (qsub_c (List.mem_of_getElem? (i := 4) rfl) (qsub_c (List.mem_of_getElem? (i := 5) rfl) (qsub_c (List.mem_of_getElem? (i := 6) rfl) qsub_nil))))) (fr_X12_answers (11 : Int32) h E0))
    exact qfr_tr e_h90 (qfr_sub (qsub_c (List.mem_of_getElem? (i := 0) rfl) (qsub_c (List.mem_of_getElem? (i := 1) rfl) (qsub_c (List.mem_of_getElem? (i := 3) rfl) (qsub_c (List.mem_of_getElem? (i := 4) rfl) (qsub_c (List.mem_of_getElem? (i := 7) rfl) qsub_nil))))) (fr_X12_test_b93 x2 x3 h90 E))
def wf_X12_test_b164 : List (Nat × Nat) := [(119, 22), (119, 27), (119, 29)]
theorem fr_X12_test_b164 (x1 : Int32) (x2 : Int32) (h : qa_M) {z : ((Int32 × Int32 × qa_M) ⊕ qa_M)} (E : f_X12_test_b164 x1 x2 h = some z) : qfr wf_X12_test_b164 h ((Sum.elim (fun z : Int32 × Int32 × qa_M => z.2.2) (fun z : qa_M => z)) z) := by
  unfold f_X12_test_b164 at E
  have e_h : qfr wf_X12_test_b164 h h := qfr_rf
  obtain ⟨h171, q_h171, E⟩ := qbd_el E
  have e_h171 := qfr_Ik q_h171 (List.mem_of_getElem? (i := 0) rfl) e_h
  obtain ⟨h181, q_h181, E⟩ := qbd_el E
  have e_h181 := qfr_Ik q_h181 (List.mem_of_getElem? (i := 2) rfl) e_h171
  obtain ⟨h191, q_h191, E⟩ := qbd_el E
  have e_h191 := qfr_Ik q_h191 (List.mem_of_getElem? (i := 1) rfl) e_h181
  exact qfr_tr e_h191 (qfr_sub qsub_nil (fr_X12_test_b199 x1 x2 h191 E))
theorem fr_X12_test_b36 (x2 : Int32) (s0 : Int32) (h : qa_M) {z : ((Int32 × Int32 × qa_M) ⊕ qa_M)} (E : f_X12_test_b36 x2 s0 h = some z) : qfr wz h ((Sum.elim (fun z : Int32 × Int32 × qa_M => z.2.2) (fun z : qa_M => z)) z) := by
  unfold f_X12_test_b36 at E
  have e_h : qfr wz h h := qfr_rf
  obtain ⟨v36, -, E⟩ := qbd_el E
  exact qsome_f (Q := fun z => qfr wz h ((Sum.elim (fun z : Int32 × Int32 × qa_M => z.2.2) (fun z : qa_M => z)) z)) E e_h
def wf_X12_test_b9 : List (Nat × Nat) := [(119, 22), (119, 23), (119, 26), (119, 27), (119, 28), (119, 29), (140, 0), (141, 0), (148, 0)]
theorem fr_X12_test_b9 (x1 : Int32) (x2 : Int32) (h : qa_M) {z : ((Int32 × Int32 × qa_M) ⊕ qa_M)} (E : f_X12_test_b9 x1 x2 h = some z) : qfr wf_X12_test_b9 h ((Sum.elim (fun z : Int32 × Int32 × qa_M => z.2.2) (fun z : qa_M => z)) z) := by
  unfold f_X12_test_b9 at E
  have e_h : qfr wf_X12_test_b9 h h := qfr_rf
  rcases qif_el E with E | E
  · refine qup_f (Q := fun z => qfr wf_X12_test_b9 h ((Sum.elim (fun z : Int32 × Int32 × qa_M => z.2.2) (fun z : qa_M => z)) z)) E (fun rz E => ?_)
    exact qsome_f (Q := fun z => qfr wf_X12_test_b9 h ((fun z : qa_M => z) z)) E e_h
  · rcases qif_el E with E | E
    · rcases qif_el E with E | E
      · obtain ⟨h43, E0, E⟩ := qbv_el E
        have e_h43 := qfr_tr e_h (qfr_sub (qsub_c (List.mem_of_getElem? (i := 2) rfl) (qsub_c (List.mem_of_getElem? (i := 3) rfl) (qsub_c (List.mem_of_getElem? (i := 5) rfl) (qsub_c (List.mem_of_getElem? (i := 6) rfl) (qsub_c (List.mem_of_getElem? (i := 7) rfl) qsub_nil))))) (fr_X12_answers (9 : Int32) h E0))
        obtain ⟨h47, E0, E⟩ := qbv_el E
        have e_h47 := qfr_tr e_h43 (qfr_sub (qsub_c (List.mem_of_getElem? (i := 0) rfl) qsub_nil) (fr_X12_blanks h43 E0))
        obtain ⟨c54, h54, E0, E⟩ := qbn_el E
        have e_h54 := qfr_tr e_h47 (qfr_sub qsub_nil (fr_X12_stood 17 h47 E0))
        obtain ⟨v57, -, E⟩ := qbd_el E
        obtain ⟨c62, h62, E0, E⟩ := qbn_el E
        have e_h62 := qfr_tr e_h54 (qfr_sub qsub_nil (fr_X12_stood 18 h54 E0))
        obtain ⟨v65, -, E⟩ := qbd_el E
        obtain ⟨h70, E0, E⟩ := qbv_el E
        have e_h70 := qfr_tr e_h62 (qfr_sub (qsub_c (List.mem_of_getElem? (i := 2) rfl) (qsub_c (List.mem_of_getElem? (i := 3) rfl) (qsub_c (List.mem_of_getElem? (i := 5) rfl) (qsub_c (List.mem_of_getElem? (i := 6) rfl) (qsub_c (List.mem_of_getElem? (i := 7) rfl) qsub_nil))))) (fr_X12_answers (10 : Int32) h62 E0))
        rcases qif_el E with E | E
        · rcases qif_el E with E | E
          · obtain ⟨h134, E0, E⟩ := qbv_el E
            have e_h134 := qfr_tr e_h70 (qfr_sub (qsub_c (List.mem_of_getElem? (i := 2) rfl) (qsub_c (List.mem_of_getElem? (i := 3) rfl) (qsub_c (List.mem_of_getElem? (i := 5) rfl) (qsub_c (List.mem_of_getElem? (i := 6) rfl) (qsub_c (List.mem_of_getElem? (i := 7) rfl) qsub_nil))))) (fr_X12_answers (11 : Int32) h70 E0))
            obtain ⟨c138, h138, E0, E⟩ := qbn_el E
            have e_h138 := qfr_tr e_h134 (qfr_sub qsub_nil (fr_X12_top h134 E0))
            rcases qif_el E with E | E
            · obtain ⟨c147, h147, E0, E⟩ := qbn_el E
              have e_h147 := qfr_tr e_h138 (qfr_sub qsub_nil (fr_X12_sign h138 E0))
              rcases qif_el E with E | E
              · exact qfr_tr e_h147 (qfr_sub (qsub_c (List.mem_of_getElem? (i := 0) rfl) (qsub_c (List.mem_of_getElem? (i := 3) rfl) (qsub_c (List.mem_of_getElem? (i := 5) rfl) qsub_nil))) (fr_X12_test_b164 x1 x2 h147 E))
              · obtain ⟨h161, E0, E⟩ := qbv_el E
                have e_h161 := qfr_tr e_h147 (qfr_sub (qsub_c (List.mem_of_getElem? (i := 1) rfl) qsub_nil) (fr_X12_fails (0 : Int32) (h147.1 119 21) h147 E0))
                exact qfr_tr e_h161 (qfr_sub (qsub_c (List.mem_of_getElem? (i := 0) rfl) (qsub_c (List.mem_of_getElem? (i := 3) rfl) (qsub_c (List.mem_of_getElem? (i := 5) rfl) qsub_nil))) (fr_X12_test_b164 x1 x2 h161 E))
            · obtain ⟨v198, -, E⟩ := qbd_el E
              exact qfr_tr e_h138 (qfr_sub qsub_nil (fr_X12_test_b199 x1 v198 h138 E))
          · exact qfr_tr e_h70 (qfr_sub (qsub_c (List.mem_of_getElem? (i := 0) rfl) (qsub_c (List.mem_of_getElem? (i := 1) rfl) (qsub_c (List.mem_of_getElem? (i := 2) rfl) (qsub_c (List.mem_of_getElem? (i := 3) rfl) (qsub_c (List.mem_of_getElem? (i := 5) rfl) (qsub_c (List.mem_of_getElem? (i := 6) rfl) (qsub_c (List.mem_of_getElem? (i := 7) rfl) (qsub_c (List.mem_of_getElem? (i := 8) rfl) qsub_nil)))))))) (fr_X12_test_b82 x2 v57 v65 h70 E))
        · exact qfr_tr e_h70 (qfr_sub (qsub_c (List.mem_of_getElem? (i := 0) rfl) (qsub_c (List.mem_of_getElem? (i := 1) rfl) (qsub_c (List.mem_of_getElem? (i := 2) rfl) (qsub_c (List.mem_of_getElem? (i := 3) rfl) (qsub_c (List.mem_of_getElem? (i := 5) rfl) (qsub_c (List.mem_of_getElem? (i := 6) rfl) (qsub_c (List.mem_of_getElem? (i := 7) rfl) (qsub_c (List.mem_of_getElem? (i := 8) rfl) qsub_nil)))))))) (fr_X12_test_b82 x2 v57 v65 h70 E))
      · obtain ⟨c25, h25, E0, E⟩ := qbn_el E
        have e_h25 := qfr_tr e_h (qfr_sub (qsub_c (List.mem_of_getElem? (i := 0) rfl) (qsub_c (List.mem_of_getElem? (i := 1) rfl) (qsub_c (List.mem_of_getElem? (i := 2) rfl) (qsub_c (List.mem_of_getElem? (i := 3) rfl) (qsub_c (List.mem_of_getElem? (i := 4) rfl) (qsub_c (List.mem_of_getElem? (i := 5) rfl) (qsub_c (List.mem_of_getElem? (i := 6) rfl) (qsub_c (List.mem_of_getElem? (i := 7) rfl) (qsub_c (List.mem_of_getElem? (i := 8) rfl) qsub_nil))))))))) (fr_X12_fact h E0))
        rcases qif_el E with E | E
        · exact qfr_tr e_h25 (qfr_sub qsub_nil (fr_X12_test_b36 x2 (1 : Int32) h25 E))
        · exact qfr_tr e_h25 (qfr_sub qsub_nil (fr_X12_test_b36 x2 (0 : Int32) h25 E))
    · refine qup_f (Q := fun z => qfr wf_X12_test_b9 h ((Sum.elim (fun z : Int32 × Int32 × qa_M => z.2.2) (fun z : qa_M => z)) z)) E (fun rz E => ?_)
      exact qsome_f (Q := fun z => qfr wf_X12_test_b9 h ((fun z : qa_M => z) z)) E e_h
theorem fr_X12_test_b9_loop (x1 : Int32) (x2 : Int32) (h : qa_M) {z : qa_M} (E : f_X12_test_b9_loop x1 x2 h = some z) : qfr wf_X12_test_b9 h ((fun z : qa_M => z) z) :=
  qlp_ind (fun sz : Int32 × Int32 × qa_M => qfr wf_X12_test_b9 (sz.2.2) ((fun z : qa_M => z) z)) (fun sz E => fr_X12_test_b9 sz.1 sz.2.1 sz.2.2 E) (fun sz sz2 E ih => qfr_tr (fr_X12_test_b9 sz.1 sz.2.1 sz.2.2 E) ih) (x1, x2, h) E
def w_X12_test : List (Nat × Nat) := [(119, 22), (119, 23), (119, 26), (119, 27), (119, 28), (119, 29), (140, 0), (141, 0), (148, 0)]
theorem fr_X12_test (h : qa_M) {z : qa_M} (E : m_X12_test h = some z) : qfr w_X12_test h ((fun z : qa_M => z) z) := by
  unfold m_X12_test at E
  have e_h : qfr w_X12_test h h := qfr_rf
  obtain ⟨h2, q_h2, E⟩ := qbd_el E
  have e_h2 := qfr_Ik q_h2 (List.mem_of_getElem? (i := 5) rfl) e_h
  obtain ⟨v6, -, E⟩ := qbd_el E
  obtain ⟨v8, -, E⟩ := qbd_el E
  exact qfr_tr e_h2 (qfr_sub (qsub_c (List.mem_of_getElem? (i := 0) rfl) (qsub_c (List.mem_of_getElem? (i := 1) rfl) (qsub_c (List.mem_of_getElem? (i := 2) rfl) (qsub_c (List.mem_of_getElem? (i := 3) rfl) (qsub_c (List.mem_of_getElem? (i := 4) rfl) (qsub_c (List.mem_of_getElem? (i := 5) rfl) (qsub_c (List.mem_of_getElem? (i := 6) rfl) (qsub_c (List.mem_of_getElem? (i := 7) rfl) (qsub_c (List.mem_of_getElem? (i := 8) rfl) qsub_nil))))))))) (fr_X12_test_b9_loop v6 v8 h2 E))
def wf_X12_lawClause_b161 : List (Nat × Nat) := [(147, 0)]
theorem fr_X12_lawClause_b161 (x4 : Int32) (h : qa_M) {z : qa_M} (E : f_X12_lawClause_b161 x4 h = some z) : qfr wf_X12_lawClause_b161 h ((fun z : qa_M => z) z) := by
  unfold f_X12_lawClause_b161 at E
  have e_h : qfr wf_X12_lawClause_b161 h h := qfr_rf
  obtain ⟨-, E⟩ := qck_el E
  obtain ⟨h171, q_h171, E⟩ := qbd_el E
  have e_h171 := qfr_I0 q_h171 (List.mem_of_getElem? (i := 0) rfl) e_h
  exact qsome_f (Q := fun z => qfr wf_X12_lawClause_b161 h ((fun z : qa_M => z) z)) E e_h171
def wf_X12_lawClause_b134 : List (Nat × Nat) := [(119, 22), (119, 23), (119, 26), (119, 27), (119, 28), (119, 29), (140, 0), (141, 0), (145, 0), (146, 0), (147, 0), (148, 0)]
theorem fr_X12_lawClause_b134 (x3 : Int32) (x4 : Int32) (s1 : Int32) (s2 : Int32) (h : qa_M) {z : qa_M} (E : f_X12_lawClause_b134 x3 x4 s1 s2 h = some z) : qfr wf_X12_lawClause_b134 h ((fun z : qa_M => z) z) := by
  unfold f_X12_lawClause_b134 at E
  have e_h : qfr wf_X12_lawClause_b134 h h := qfr_rf
  obtain ⟨-, E⟩ := qck_el E
  obtain ⟨h134, q_h134, E⟩ := qbd_el E
  have e_h134 := qfr_I0 q_h134 (List.mem_of_getElem? (i := 8) rfl) e_h
  obtain ⟨-, E⟩ := qck_el E
  obtain ⟨h145, q_h145, E⟩ := qbd_el E
  have e_h145 := qfr_I0 q_h145 (List.mem_of_getElem? (i := 9) rfl) e_h134
  rcases qif_el E with E | E
  · rcases qif_el E with E | E
    · obtain ⟨h158, E0, E⟩ := qbv_el E
      have e_h158 := qfr_tr e_h145 (qfr_sub (qsub_c (List.mem_of_getElem? (i := 0) rfl) (qsub_c (List.mem_of_getElem? (i := 1) rfl) (qsub_c (List.mem_of_getElem? (i := 2) rfl) (qsub_c (List.mem_of_getElem? (i := 3) rfl) (qsub_c (List.mem_of_getElem? (i := 4) rfl) (qsub_c (List.mem_of_getElem? (i := 5) rfl) (qsub_c (List.mem_of_getElem? (i := 6) rfl) (qsub_c (List.mem_of_getElem? (i := 7) rfl) (qsub_c (List.mem_of_getElem? (i := 11) rfl) qsub_nil))))))))) (fr_X12_test h145 E0))
      exact qfr_tr e_h158 (qfr_sub (qsub_c (List.mem_of_getElem? (i := 10) rfl) qsub_nil) (fr_X12_lawClause_b161 x4 h158 E))
    · exact qfr_tr e_h145 (qfr_sub (qsub_c (List.mem_of_getElem? (i := 10) rfl) qsub_nil) (fr_X12_lawClause_b161 x4 h145 E))
  · exact qfr_tr e_h145 (qfr_sub (qsub_c (List.mem_of_getElem? (i := 10) rfl) qsub_nil) (fr_X12_lawClause_b161 x4 h145 E))
def wf_X12_lawClause_b113 : List (Nat × Nat) := [(119, 22), (119, 23), (119, 26), (119, 27), (119, 28), (119, 29), (140, 0), (141, 0), (144, 0), (145, 0), (146, 0), (147, 0), (148, 0)]
theorem fr_X12_lawClause_b113 (x3 : Int32) (x4 : Int32) (s1 : Int32) (s2 : Int32) (h : qa_M) {z : qa_M} (E : f_X12_lawClause_b113 x3 x4 s1 s2 h = some z) : qfr wf_X12_lawClause_b113 h ((fun z : qa_M => z) z) := by
  unfold f_X12_lawClause_b113 at E
  have e_h : qfr wf_X12_lawClause_b113 h h := qfr_rf
  obtain ⟨-, E⟩ := qck_el E
  obtain ⟨h113, q_h113, E⟩ := qbd_el E
  have e_h113 := qfr_I0 q_h113 (List.mem_of_getElem? (i := 8) rfl) e_h
  rcases qif_el E with E | E
  · exact qfr_tr e_h113 (qfr_sub (qsub_c (List.mem_of_getElem? (i := 0) rfl) (qsub_c (List.mem_of_getElem? (i := 1) rfl) (qsub_c (List.mem_of_getElem? (i := 2) rfl) (qsub_c (List.mem_of_getElem? (i := 3) rfl) (qsub_c (List.mem_of_getElem? (i := 4) rfl) (qsub_c (List.mem_of_getElem? (i := 5) rfl) (qsub_c (List.mem_of_getElem? (i := 6) rfl) (qsub_c (List.mem_of_getElem? (i := 7) rfl) (qsub_c (List.mem_of_getElem? (i := 9) rfl) (qsub_c (List.mem_of_getElem? (i := 10) rfl) (qsub_c (List.mem_of_getElem? (i := 11) rfl) (qsub_c (List.mem_of_getElem? (i := 12) rfl) qsub_nil)))))))))))) (fr_X12_lawClause_b134 x3 x4 x4 (0 : Int32) h113 E))
  · obtain ⟨c127, h127, E0, E⟩ := qbn_el E
    have e_h127 := qfr_tr e_h113 (qfr_sub (qsub_c (List.mem_of_getElem? (i := 0) rfl) (qsub_c (List.mem_of_getElem? (i := 1) rfl) qsub_nil)) (fr_X12_amount (1 : Int32) (5 : Int32) h113 E0))
    exact qfr_tr e_h127 (qfr_sub (qsub_c (List.mem_of_getElem? (i := 0) rfl) (qsub_c (List.mem_of_getElem? (i := 1) rfl) (qsub_c (List.mem_of_getElem? (i := 2) rfl) (qsub_c (List.mem_of_getElem? (i := 3) rfl) (qsub_c (List.mem_of_getElem? (i := 4) rfl) (qsub_c (List.mem_of_getElem? (i := 5) rfl) (qsub_c (List.mem_of_getElem? (i := 6) rfl) (qsub_c (List.mem_of_getElem? (i := 7) rfl) (qsub_c (List.mem_of_getElem? (i := 9) rfl) (qsub_c (List.mem_of_getElem? (i := 10) rfl) (qsub_c (List.mem_of_getElem? (i := 11) rfl) (qsub_c (List.mem_of_getElem? (i := 12) rfl) qsub_nil)))))))))))) (fr_X12_lawClause_b134 x3 x4 x4 c127 h127 E))
def wf_X12_lawClause_b65 : List (Nat × Nat) := [(119, 22), (119, 23), (119, 26), (119, 27), (119, 28), (119, 29), (140, 0), (141, 0), (143, 0), (144, 0), (145, 0), (146, 0), (147, 0), (148, 0)]
theorem fr_X12_lawClause_b65 (x1 : Int32) (x3 : Int32) (s1 : Int32) (s2 : Int32) (h : qa_M) {z : qa_M} (E : f_X12_lawClause_b65 x1 x3 s1 s2 h = some z) : qfr wf_X12_lawClause_b65 h ((fun z : qa_M => z) z) := by
  unfold f_X12_lawClause_b65 at E
  have e_h : qfr wf_X12_lawClause_b65 h h := qfr_rf
  obtain ⟨h66, q_h66, E⟩ := qbd_el E
  have e_h66 := qfr_Ik q_h66 (List.mem_of_getElem? (i := 0) rfl) e_h
  obtain ⟨v78, -, E⟩ := qbd_el E
  obtain ⟨c89, h89, E0, E⟩ := qbn_el E
  have e_h89 := qfr_tr e_h66 (qfr_sub (qsub_c (List.mem_of_getElem? (i := 0) rfl) (qsub_c (List.mem_of_getElem? (i := 1) rfl) qsub_nil)) (fr_X12_amount (0 : Int32) (3 : Int32) h66 E0))
  obtain ⟨-, E⟩ := qck_el E
  obtain ⟨h92, q_h92, E⟩ := qbd_el E
  have e_h92 := qfr_I0 q_h92 (List.mem_of_getElem? (i := 8) rfl) e_h89
  rcases qif_el E with E | E
  · exact qfr_tr e_h92 (qfr_sub (qsub_c (List.mem_of_getElem? (i := 0) rfl) (qsub_c (List.mem_of_getElem? (i := 1) rfl) (qsub_c (List.mem_of_getElem? (i := 2) rfl) (qsub_c (List.mem_of_getElem? (i := 3) rfl) (qsub_c (List.mem_of_getElem? (i := 4) rfl) (qsub_c (List.mem_of_getElem? (i := 5) rfl) (qsub_c (List.mem_of_getElem? (i := 6) rfl) (qsub_c (List.mem_of_getElem? (i := 7) rfl) (qsub_c (List.mem_of_getElem? (i := 9) rfl) (qsub_c (List.mem_of_getElem? (i := 10) rfl) (qsub_c (List.mem_of_getElem? (i := 11) rfl) (qsub_c (List.mem_of_getElem? (i := 12) rfl) (qsub_c (List.mem_of_getElem? (i := 13) rfl) qsub_nil))))))))))))) (fr_X12_lawClause_b113 x3 v78 v78 (-1 : Int32) h92 E))
  · obtain ⟨c106, h106, E0, E⟩ := qbn_el E
    have e_h106 := qfr_tr e_h92 (qfr_sub (qsub_c (List.mem_of_getElem? (i := 0) rfl) (qsub_c (List.mem_of_getElem? (i := 1) rfl) qsub_nil)) (fr_X12_amount (0 : Int32) (3 : Int32) h92 E0))
    exact qfr_tr e_h106 (qfr_sub (qsub_c (List.mem_of_getElem? (i := 0) rfl) (qsub_c (List.mem_of_getElem? (i := 1) rfl) (qsub_c (List.mem_of_getElem? (i := 2) rfl) (qsub_c (List.mem_of_getElem? (i := 3) rfl) (qsub_c (List.mem_of_getElem? (i := 4) rfl) (qsub_c (List.mem_of_getElem? (i := 5) rfl) (qsub_c (List.mem_of_getElem? (i := 6) rfl) (qsub_c (List.mem_of_getElem? (i := 7) rfl) (qsub_c (List.mem_of_getElem? (i := 9) rfl) (qsub_c (List.mem_of_getElem? (i := 10) rfl) (qsub_c (List.mem_of_getElem? (i := 11) rfl) (qsub_c (List.mem_of_getElem? (i := 12) rfl) (qsub_c (List.mem_of_getElem? (i := 13) rfl) qsub_nil))))))))))))) (fr_X12_lawClause_b113 x3 v78 v78 c106 h106 E))
def wf_X12_lawClause_b38 : List (Nat × Nat) := [(119, 22), (119, 23), (119, 26), (119, 27), (119, 28), (119, 29), (140, 0), (141, 0), (143, 0), (144, 0), (145, 0), (146, 0), (147, 0), (148, 0)]
theorem fr_X12_lawClause_b38 (x1 : Int32) (x2 : Int32) (x3 : Int32) (h : qa_M) {z : qa_M} (E : f_X12_lawClause_b38 x1 x2 x3 h = some z) : qfr wf_X12_lawClause_b38 h ((fun z : qa_M => z) z) := by
  unfold f_X12_lawClause_b38 at E
  have e_h : qfr wf_X12_lawClause_b38 h h := qfr_rf
  rcases qif_el E with E | E
  · obtain ⟨h47, E0, E⟩ := qbv_el E
    have e_h47 := qfr_tr e_h (qfr_sub (qsub_c (List.mem_of_getElem? (i := 1) rfl) qsub_nil) (fr_X12_fails (4 : Int32) x2 h E0))
    exact qsome_f (Q := fun z => qfr wf_X12_lawClause_b38 h ((fun z : qa_M => z) z)) E e_h47
  · rcases qif_el E with E | E
    · exact qfr_tr e_h (qfr_sub (qsub_c (List.mem_of_getElem? (i := 0) rfl) (qsub_c (List.mem_of_getElem? (i := 1) rfl) (qsub_c (List.mem_of_getElem? (i := 2) rfl) (qsub_c (List.mem_of_getElem? (i := 3) rfl) (qsub_c (List.mem_of_getElem? (i := 4) rfl) (qsub_c (List.mem_of_getElem? (i := 5) rfl) (qsub_c (List.mem_of_getElem? (i := 6) rfl) (qsub_c (List.mem_of_getElem? (i := 7) rfl) (qsub_c (List.mem_of_getElem? (i := 8) rfl) (qsub_c (List.mem_of_getElem? (i := 9) rfl) (qsub_c (List.mem_of_getElem? (i := 10) rfl) (qsub_c (List.mem_of_getElem? (i := 11) rfl) (qsub_c (List.mem_of_getElem? (i := 12) rfl) (qsub_c (List.mem_of_getElem? (i := 13) rfl) qsub_nil)))))))))))))) (fr_X12_lawClause_b65 x1 x3 (h.1 119 21) (3 : Int32) h E))
    · exact qfr_tr e_h (qfr_sub (qsub_c (List.mem_of_getElem? (i := 0) rfl) (qsub_c (List.mem_of_getElem? (i := 1) rfl) (qsub_c (List.mem_of_getElem? (i := 2) rfl) (qsub_c (List.mem_of_getElem? (i := 3) rfl) (qsub_c (List.mem_of_getElem? (i := 4) rfl) (qsub_c (List.mem_of_getElem? (i := 5) rfl) (qsub_c (List.mem_of_getElem? (i := 6) rfl) (qsub_c (List.mem_of_getElem? (i := 7) rfl) (qsub_c (List.mem_of_getElem? (i := 8) rfl) (qsub_c (List.mem_of_getElem? (i := 9) rfl) (qsub_c (List.mem_of_getElem? (i := 10) rfl) (qsub_c (List.mem_of_getElem? (i := 11) rfl) (qsub_c (List.mem_of_getElem? (i := 12) rfl) (qsub_c (List.mem_of_getElem? (i := 13) rfl) qsub_nil)))))))))))))) (fr_X12_lawClause_b65 x1 x3 (h.1 119 21) (5 : Int32) h E))
def w_X12_lawClause : List (Nat × Nat) := [(119, 22), (119, 23), (119, 26), (119, 27), (119, 28), (119, 29), (140, 0), (141, 0), (143, 0), (144, 0), (145, 0), (146, 0), (147, 0), (148, 0)]
theorem fr_X12_lawClause (x1 : Int32) (h : qa_M) {z : qa_M} (E : m_X12_lawClause x1 h = some z) : qfr w_X12_lawClause h ((fun z : qa_M => z) z) := by
  unfold m_X12_lawClause at E
  have e_h : qfr w_X12_lawClause h h := qfr_rf
  obtain ⟨h1, E0, E⟩ := qbv_el E
  have e_h1 := qfr_tr e_h (qfr_sub (qsub_c (List.mem_of_getElem? (i := 0) rfl) qsub_nil) (fr_X12_blanks h E0))
  obtain ⟨v8, -, E⟩ := qbd_el E
  obtain ⟨c13, h13, E0, E⟩ := qbn_el E
  have e_h13 := qfr_tr e_h1 (qfr_sub qsub_nil (fr_X12_stood 10 h1 E0))
  obtain ⟨v16, -, E⟩ := qbd_el E
  rcases qif_el E with E | E
  · obtain ⟨c25, h25, E0, E⟩ := qbn_el E
    have e_h25 := qfr_tr e_h13 (qfr_sub qsub_nil (fr_X12_stood 11 h13 E0))
    rcases qif_el E with E | E
    · obtain ⟨h34, E0, E⟩ := qbv_el E
      have e_h34 := qfr_tr e_h25 (qfr_sub (qsub_c (List.mem_of_getElem? (i := 1) rfl) qsub_nil) (fr_X12_fails (0 : Int32) v8 h25 E0))
      exact qsome_f (Q := fun z => qfr w_X12_lawClause h ((fun z : qa_M => z) z)) E e_h34
    · exact qfr_tr e_h25 (qfr_sub (qsub_c (List.mem_of_getElem? (i := 0) rfl) (qsub_c (List.mem_of_getElem? (i := 1) rfl) (qsub_c (List.mem_of_getElem? (i := 2) rfl) (qsub_c (List.mem_of_getElem? (i := 3) rfl) (qsub_c (List.mem_of_getElem? (i := 4) rfl) (qsub_c (List.mem_of_getElem? (i := 5) rfl) (qsub_c (List.mem_of_getElem? (i := 6) rfl) (qsub_c (List.mem_of_getElem? (i := 7) rfl) (qsub_c (List.mem_of_getElem? (i := 8) rfl) (qsub_c (List.mem_of_getElem? (i := 9) rfl) (qsub_c (List.mem_of_getElem? (i := 10) rfl) (qsub_c (List.mem_of_getElem? (i := 11) rfl) (qsub_c (List.mem_of_getElem? (i := 12) rfl) (qsub_c (List.mem_of_getElem? (i := 13) rfl) qsub_nil)))))))))))))) (fr_X12_lawClause_b38 x1 v8 v16 h25 E))
  · exact qfr_tr e_h13 (qfr_sub (qsub_c (List.mem_of_getElem? (i := 0) rfl) (qsub_c (List.mem_of_getElem? (i := 1) rfl) (qsub_c (List.mem_of_getElem? (i := 2) rfl) (qsub_c (List.mem_of_getElem? (i := 3) rfl) (qsub_c (List.mem_of_getElem? (i := 4) rfl) (qsub_c (List.mem_of_getElem? (i := 5) rfl) (qsub_c (List.mem_of_getElem? (i := 6) rfl) (qsub_c (List.mem_of_getElem? (i := 7) rfl) (qsub_c (List.mem_of_getElem? (i := 8) rfl) (qsub_c (List.mem_of_getElem? (i := 9) rfl) (qsub_c (List.mem_of_getElem? (i := 10) rfl) (qsub_c (List.mem_of_getElem? (i := 11) rfl) (qsub_c (List.mem_of_getElem? (i := 12) rfl) (qsub_c (List.mem_of_getElem? (i := 13) rfl) qsub_nil)))))))))))))) (fr_X12_lawClause_b38 x1 v8 v16 h13 E))
def wf_X12_law_b78 : List (Nat × Nat) := [(119, 25)]
theorem fr_X12_law_b78 (s1 : Int32) (s2 : Int32) (h : qa_M) {z : (Int32 × qa_M)} (E : f_X12_law_b78 s1 s2 h = some z) : qfr wf_X12_law_b78 h ((fun z : Int32 × qa_M => z.2) z) := by
  unfold f_X12_law_b78 at E
  have e_h : qfr wf_X12_law_b78 h h := qfr_rf
  obtain ⟨h79, q_h79, E⟩ := qbd_el E
  have e_h79 := qfr_Ik q_h79 (List.mem_of_getElem? (i := 0) rfl) e_h
  rcases qif_el E with E | E
  · exact qsome_f (Q := fun z => qfr wf_X12_law_b78 h ((fun z : Int32 × qa_M => z.2) z)) E e_h79
  · exact qsome_f (Q := fun z => qfr wf_X12_law_b78 h ((fun z : Int32 × qa_M => z.2) z)) E e_h79
def wf_X12_law_b46 : List (Nat × Nat) := [(119, 21), (119, 25), (142, 0)]
theorem fr_X12_law_b46 (x1 : Int32) (h : qa_M) {z : (Int32 × qa_M)} (E : f_X12_law_b46 x1 h = some z) : qfr wf_X12_law_b46 h ((fun z : Int32 × qa_M => z.2) z) := by
  unfold f_X12_law_b46 at E
  have e_h : qfr wf_X12_law_b46 h h := qfr_rf
  obtain ⟨h48, q_h48, E⟩ := qbd_el E
  have e_h48 := qfr_Ik q_h48 (List.mem_of_getElem? (i := 0) rfl) e_h
  obtain ⟨-, E⟩ := qck_el E
  obtain ⟨h60, q_h60, E⟩ := qbd_el E
  have e_h60 := qfr_I0 q_h60 (List.mem_of_getElem? (i := 2) rfl) e_h48
  rcases qif_el E with E | E
  · exact qfr_tr e_h60 (qfr_sub (qsub_c (List.mem_of_getElem? (i := 1) rfl) qsub_nil) (fr_X12_law_b78 (h60.1 119 24) (1 : Int32) h60 E))
  · exact qfr_tr e_h60 (qfr_sub (qsub_c (List.mem_of_getElem? (i := 1) rfl) qsub_nil) (fr_X12_law_b78 (h60.1 119 24) (0 : Int32) h60 E))
def wf_X12_law_b26 : List (Nat × Nat) := [(119, 21), (119, 22), (119, 23), (119, 25), (119, 26), (119, 27), (119, 28), (119, 29), (140, 0), (141, 0), (142, 0), (143, 0), (144, 0), (145, 0), (146, 0), (147, 0), (148, 0)]
theorem fr_X12_law_b26 (x1 : Int32) (x2 : Int32) (h : qa_M) {z : ((Int32 × Int32 × qa_M) ⊕ (Int32 × qa_M))} (E : f_X12_law_b26 x1 x2 h = some z) : qfr wf_X12_law_b26 h ((Sum.elim (fun z : Int32 × Int32 × qa_M => z.2.2) (fun z : Int32 × qa_M => z.2)) z) := by
  unfold f_X12_law_b26 at E
  have e_h : qfr wf_X12_law_b26 h h := qfr_rf
  rcases qif_el E with E | E
  · refine qup_f (Q := fun z => qfr wf_X12_law_b26 h ((Sum.elim (fun z : Int32 × Int32 × qa_M => z.2.2) (fun z : Int32 × qa_M => z.2)) z)) E (fun rz E => ?_)
    exact qfr_tr e_h (qfr_sub (qsub_c (List.mem_of_getElem? (i := 0) rfl) (qsub_c (List.mem_of_getElem? (i := 3) rfl) (qsub_c (List.mem_of_getElem? (i := 10) rfl) qsub_nil))) (fr_X12_law_b46 x1 h E))
  · obtain ⟨h32, E0, E⟩ := qbv_el E
    have e_h32 := qfr_tr e_h (qfr_sub (qsub_c (List.mem_of_getElem? (i := 1) rfl) (qsub_c (List.mem_of_getElem? (i := 2) rfl) (qsub_c (List.mem_of_getElem? (i := 4) rfl) (qsub_c (List.mem_of_getElem? (i := 5) rfl) (qsub_c (List.mem_of_getElem? (i := 6) rfl) (qsub_c (List.mem_of_getElem? (i := 7) rfl) (qsub_c (List.mem_of_getElem? (i := 8) rfl) (qsub_c (List.mem_of_getElem? (i := 9) rfl) (qsub_c (List.mem_of_getElem? (i := 11) rfl) (qsub_c (List.mem_of_getElem? (i := 12) rfl) (qsub_c (List.mem_of_getElem? (i := 13) rfl) (qsub_c (List.mem_of_getElem? (i := 14) rfl) (qsub_c (List.mem_of_getElem? (i := 15) rfl) (qsub_c (List.mem_of_getElem? (i := 16) rfl) qsub_nil)))))))))))))) (fr_X12_lawClause x1 h E0))
    obtain ⟨v35, -, E⟩ := qbd_el E
    obtain ⟨c39, h39, E0, E⟩ := qbn_el E
    have e_h39 := qfr_tr e_h32 (qfr_sub (qsub_c (List.mem_of_getElem? (i := 1) rfl) (qsub_c (List.mem_of_getElem? (i := 2) rfl) qsub_nil)) (fr_X12_goesOn h32 E0))
    obtain ⟨v42, -, E⟩ := qbd_el E
    exact qsome_f (Q := fun z => qfr wf_X12_law_b26 h ((Sum.elim (fun z : Int32 × Int32 × qa_M => z.2.2) (fun z : Int32 × qa_M => z.2)) z)) E e_h39
theorem fr_X12_law_b26_loop (x1 : Int32) (x2 : Int32) (h : qa_M) {z : (Int32 × qa_M)} (E : f_X12_law_b26_loop x1 x2 h = some z) : qfr wf_X12_law_b26 h ((fun z : Int32 × qa_M => z.2) z) :=
  qlp_ind (fun sz : Int32 × Int32 × qa_M => qfr wf_X12_law_b26 (sz.2.2) ((fun z : Int32 × qa_M => z.2) z)) (fun sz E => fr_X12_law_b26 sz.1 sz.2.1 sz.2.2 E) (fun sz sz2 E ih => qfr_tr (fr_X12_law_b26 sz.1 sz.2.1 sz.2.2 E) ih) (x1, x2, h) E
def w_X12_law : List (Nat × Nat) := [(119, 21), (119, 22), (119, 23), (119, 24), (119, 25), (119, 26), (119, 27), (119, 28), (119, 29), (140, 0), (141, 0), (142, 0), (143, 0), (144, 0), (145, 0), (146, 0), (147, 0), (148, 0)]
theorem fr_X12_law (h : qa_M) {z : (Int32 × qa_M)} (E : m_X12_law h = some z) : qfr w_X12_law h ((fun z : Int32 × qa_M => z.2) z) := by
  unfold m_X12_law at E
  have e_h : qfr w_X12_law h h := qfr_rf
  rcases qif_el E with E | E
  · exact qsome_f (Q := fun z => qfr w_X12_law h ((fun z : Int32 × qa_M => z.2) z)) E e_h
  · obtain ⟨h15, q_h15, E⟩ := qbd_el E
    have e_h15 := qfr_Ik q_h15 (List.mem_of_getElem? (i := 3) rfl) e_h
    obtain ⟨h19, E0, E⟩ := qbv_el E
    have e_h19 := qfr_tr e_h15 (qfr_sub (qsub_c (List.mem_of_getElem? (i := 1) rfl) (qsub_c (List.mem_of_getElem? (i := 2) rfl) (qsub_c (List.mem_of_getElem? (i := 5) rfl) (qsub_c (List.mem_of_getElem? (i := 6) rfl) (qsub_c (List.mem_of_getElem? (i := 7) rfl) qsub_nil))))) (fr_X12_starts h15 E0))
    obtain ⟨v23, -, E⟩ := qbd_el E
    obtain ⟨v25, -, E⟩ := qbd_el E
    exact qfr_tr e_h19 (qfr_sub (qsub_c (List.mem_of_getElem? (i := 0) rfl) (qsub_c (List.mem_of_getElem? (i := 1) rfl) (qsub_c (List.mem_of_getElem? (i := 2) rfl) (qsub_c (List.mem_of_getElem? (i := 4) rfl) (qsub_c (List.mem_of_getElem? (i := 5) rfl) (qsub_c (List.mem_of_getElem? (i := 6) rfl) (qsub_c (List.mem_of_getElem? (i := 7) rfl) (qsub_c (List.mem_of_getElem? (i := 8) rfl) (qsub_c (List.mem_of_getElem? (i := 9) rfl) (qsub_c (List.mem_of_getElem? (i := 10) rfl) (qsub_c (List.mem_of_getElem? (i := 11) rfl) (qsub_c (List.mem_of_getElem? (i := 12) rfl) (qsub_c (List.mem_of_getElem? (i := 13) rfl) (qsub_c (List.mem_of_getElem? (i := 14) rfl) (qsub_c (List.mem_of_getElem? (i := 15) rfl) (qsub_c (List.mem_of_getElem? (i := 16) rfl) (qsub_c (List.mem_of_getElem? (i := 17) rfl) qsub_nil))))))))))))))))) (fr_X12_law_b26_loop v23 v25 h19 E))
theorem fr_X12_isLaw (x1 : Int32) (h : qa_M) {z : (Int32 × qa_M)} (E : m_X12_isLaw x1 h = some z) : qfr wz h ((fun z : Int32 × qa_M => z.2) z) := by
  unfold m_X12_isLaw at E
  have e_h : qfr wz h h := qfr_rf
  obtain ⟨c10, h10, E0, E⟩ := qbn_el E
  have e_h10 := qfr_tr e_h (qfr_sub qsub_nil (fr_X12_in x1.toInt64 (0 : Int64) (((h.1 119 24) - (1 : Int32)).toInt64) h E0))
  obtain ⟨-, E⟩ := qpr_el E
  exact qsome_f (Q := fun z => qfr wz h ((fun z : Int32 × qa_M => z.2) z)) E e_h10
def wf_X12_stands_b16 : List (Nat × Nat) := [(120, 0)]
theorem fr_X12_stands_b16 (x1 : Int32) (h : qa_M) {z : (Int32 × qa_M)} (E : f_X12_stands_b16 x1 h = some z) : qfr wf_X12_stands_b16 h ((fun z : Int32 × qa_M => z.2) z) := by
  unfold f_X12_stands_b16 at E
  have e_h : qfr wf_X12_stands_b16 h h := qfr_rf
  obtain ⟨-, E⟩ := qck_el E
  obtain ⟨v25, -, E⟩ := qbd_el E
  obtain ⟨-, E⟩ := qck_el E
  obtain ⟨h35, q_h35, E⟩ := qbd_el E
  have e_h35 := qfr_I0 q_h35 (List.mem_of_getElem? (i := 0) rfl) e_h
  exact qsome_f (Q := fun z => qfr wf_X12_stands_b16 h ((fun z : Int32 × qa_M => z.2) z)) E e_h35
def w_X12_stands : List (Nat × Nat) := [(120, 0)]
theorem fr_X12_stands (x1 : Int32) (h : qa_M) {z : (Int32 × qa_M)} (E : m_X12_stands x1 h = some z) : qfr w_X12_stands h ((fun z : Int32 × qa_M => z.2) z) := by
  unfold m_X12_stands at E
  have e_h : qfr w_X12_stands h h := qfr_rf
  rcases qif_el E with E | E
  · exact qfr_tr e_h (qfr_sub (qsub_c (List.mem_of_getElem? (i := 0) rfl) qsub_nil) (fr_X12_stands_b16 x1 h E))
  · obtain ⟨c7, h7, E0, E⟩ := qbn_el E
    have e_h7 := qfr_tr e_h (qfr_sub qsub_nil (fr_X12_isLaw x1 h E0))
    rcases qif_el E with E | E
    · exact qsome_f (Q := fun z => qfr w_X12_stands h ((fun z : Int32 × qa_M => z.2) z)) E e_h7
    · exact qfr_tr e_h7 (qfr_sub (qsub_c (List.mem_of_getElem? (i := 0) rfl) qsub_nil) (fr_X12_stands_b16 x1 h7 E))
theorem fr_X12_isLand (h : qa_M) {z : (Int32 × qa_M)} (E : m_X12_isLand h = some z) : qfr wz h ((fun z : Int32 × qa_M => z.2) z) := by
  unfold m_X12_isLand at E
  have e_h : qfr wz h h := qfr_rf
  obtain ⟨-, E⟩ := qck_el E
  rcases qif_el E with E | E
  · exact qsome_f (Q := fun z => qfr wz h ((fun z : Int32 × qa_M => z.2) z)) E e_h
  · exact qsome_f (Q := fun z => qfr wz h ((fun z : Int32 × qa_M => z.2) z)) E e_h
theorem fr_X12_isSort (x1 : Int32) (h : qa_M) {z : (Int32 × qa_M)} (E : m_X12_isSort x1 h = some z) : qfr wz h ((fun z : Int32 × qa_M => z.2) z) := by
  unfold m_X12_isSort at E
  have e_h : qfr wz h h := qfr_rf
  obtain ⟨-, E⟩ := qck_el E
  obtain ⟨c12, h12, E0, E⟩ := qbn_el E
  have e_h12 := qfr_tr e_h (qfr_sub qsub_nil (fr_X12_in x1.toInt64 (0 : Int64) (((h.1 120 (4 : Int32).toNatClampNeg) - (1 : Int32)).toInt64) h E0))
  obtain ⟨-, E⟩ := qpr_el E
  exact qsome_f (Q := fun z => qfr wz h ((fun z : Int32 × qa_M => z.2) z)) E e_h12
def wf_X12_note_b60 : List (Nat × Nat) := [(120, 0), (127, 0), (128, 0), (129, 0), (130, 0), (131, 0)]
theorem fr_X12_note_b60 (x1 : Int32) (x2 : Int32) (x3 : Int32) (x4 : Int32) (x5 : Int32) (x6 : Int32) (s0 : Int64) (s1 : Int64) (s3 : Int32) (h : qa_M) {z : (Int32 × qa_M)} (E : f_X12_note_b60 x1 x2 x3 x4 x5 x6 s0 s1 s3 h = some z) : qfr wf_X12_note_b60 h ((fun z : Int32 × qa_M => z.2) z) := by
  unfold f_X12_note_b60 at E
  have e_h : qfr wf_X12_note_b60 h h := qfr_rf
  obtain ⟨-, E⟩ := qck_el E
  obtain ⟨c64, h64, E0, E⟩ := qbn_el E
  have e_h64 := qfr_tr e_h (qfr_sub qsub_nil (fr_X12_in s0 s1 (((h.1 120 s3.toNatClampNeg) - (1 : Int32)).toInt64) h E0))
  rcases qif_el E with E | E
  · exact qsome_f (Q := fun z => qfr wf_X12_note_b60 h ((fun z : Int32 × qa_M => z.2) z)) E e_h64
  · obtain ⟨c73, h73, E0, E⟩ := qbn_el E
    have e_h73 := qfr_tr e_h64 (qfr_sub qsub_nil (fr_X12_isSort x4 h64 E0))
    rcases qif_el E with E | E
    · exact qsome_f (Q := fun z => qfr wf_X12_note_b60 h ((fun z : Int32 × qa_M => z.2) z)) E e_h73
    · obtain ⟨c88, h88, E0, E⟩ := qbn_el E
      have e_h88 := qfr_tr e_h73 (qfr_sub qsub_nil (fr_X12_in x5.toInt64 (-1 : Int64) (3 : Int64) h73 E0))
      rcases qif_el E with E | E
      · exact qsome_f (Q := fun z => qfr wf_X12_note_b60 h ((fun z : Int32 × qa_M => z.2) z)) E e_h88
      · obtain ⟨-, E⟩ := qck_el E
        obtain ⟨h103, q_h103, E⟩ := qbd_el E
        have e_h103 := qfr_I0 q_h103 (List.mem_of_getElem? (i := 1) rfl) e_h88
        obtain ⟨-, E⟩ := qck_el E
        obtain ⟨h111, q_h111, E⟩ := qbd_el E
        have e_h111 := qfr_I0 q_h111 (List.mem_of_getElem? (i := 2) rfl) e_h103
        obtain ⟨-, E⟩ := qck_el E
        obtain ⟨h119, q_h119, E⟩ := qbd_el E
        have e_h119 := qfr_I0 q_h119 (List.mem_of_getElem? (i := 3) rfl) e_h111
        obtain ⟨-, E⟩ := qck_el E
        obtain ⟨h128, q_h128, E⟩ := qbd_el E
        have e_h128 := qfr_I0 q_h128 (List.mem_of_getElem? (i := 4) rfl) e_h119
        obtain ⟨-, E⟩ := qck_el E
        obtain ⟨h137, q_h137, E⟩ := qbd_el E
        have e_h137 := qfr_I0 q_h137 (List.mem_of_getElem? (i := 5) rfl) e_h128
        obtain ⟨-, E⟩ := qck_el E
        obtain ⟨-, E⟩ := qck_el E
        obtain ⟨h147, q_h147, E⟩ := qbd_el E
        have e_h147 := qfr_I0 q_h147 (List.mem_of_getElem? (i := 0) rfl) e_h137
        exact qsome_f (Q := fun z => qfr wf_X12_note_b60 h ((fun z : Int32 × qa_M => z.2) z)) E e_h147
def w_X12_note : List (Nat × Nat) := [(120, 0), (127, 0), (128, 0), (129, 0), (130, 0), (131, 0)]
theorem fr_X12_note (x1 : Int32) (x2 : Int32) (x3 : Int32) (x4 : Int32) (x5 : Int32) (h : qa_M) {z : (Int32 × qa_M)} (E : m_X12_note x1 x2 x3 x4 x5 h = some z) : qfr w_X12_note h ((fun z : Int32 × qa_M => z.2) z) := by
  unfold m_X12_note at E
  have e_h : qfr w_X12_note h h := qfr_rf
  obtain ⟨-, E⟩ := qck_el E
  obtain ⟨v6, -, E⟩ := qbd_el E
  obtain ⟨c9, h9, E0, E⟩ := qbn_el E
  have e_h9 := qfr_tr e_h (qfr_sub qsub_nil (fr_X12_isLand h E0))
  rcases qif_el E with E | E
  · exact qsome_f (Q := fun z => qfr w_X12_note h ((fun z : Int32 × qa_M => z.2) z)) E e_h9
  · rcases qif_el E with E | E
    · exact qsome_f (Q := fun z => qfr w_X12_note h ((fun z : Int32 × qa_M => z.2) z)) E e_h9
    · obtain ⟨c28, h28, E0, E⟩ := qbn_el E
      have e_h28 := qfr_tr e_h9 (qfr_sub qsub_nil (fr_X12_in x1.toInt64 (0 : Int64) (5 : Int64) h9 E0))
      rcases qif_el E with E | E
      · exact qsome_f (Q := fun z => qfr w_X12_note h ((fun z : Int32 × qa_M => z.2) z)) E e_h28
      · obtain ⟨c38, h38, E0, E⟩ := qbn_el E
        have e_h38 := qfr_tr e_h28 (qfr_sub qsub_nil (fr_X12_in x2.toInt64 (0 : Int64) (1 : Int64) h28 E0))
        rcases qif_el E with E | E
        · exact qsome_f (Q := fun z => qfr w_X12_note h ((fun z : Int32 × qa_M => z.2) z)) E e_h38
        · rcases qif_el E with E | E
          · exact qfr_tr e_h38 (qfr_sub (qsub_c (List.mem_of_getElem? (i := 0) rfl) (qsub_c (List.mem_of_getElem? (i := 1) rfl) (qsub_c (List.mem_of_getElem? (i := 2) rfl) (qsub_c (List.mem_of_getElem? (i := 3) rfl) (qsub_c (List.mem_of_getElem? (i := 4) rfl) (qsub_c (List.mem_of_getElem? (i := 5) rfl) qsub_nil)))))) (fr_X12_note_b60 x1 x2 x3 x4 x5 v6 x3.toInt64 (0 : Int64) (2 : Int32) h38 E))
          · exact qfr_tr e_h38 (qfr_sub (qsub_c (List.mem_of_getElem? (i := 0) rfl) (qsub_c (List.mem_of_getElem? (i := 1) rfl) (qsub_c (List.mem_of_getElem? (i := 2) rfl) (qsub_c (List.mem_of_getElem? (i := 3) rfl) (qsub_c (List.mem_of_getElem? (i := 4) rfl) (qsub_c (List.mem_of_getElem? (i := 5) rfl) qsub_nil)))))) (fr_X12_note_b60 x1 x2 x3 x4 x5 v6 x3.toInt64 (0 : Int64) (3 : Int32) h38 E))
theorem fr_X12_isSquare (x1 : Int32) (x2 : Int32) (h : qa_M) {z : (Int32 × qa_M)} (E : m_X12_isSquare x1 x2 h = some z) : qfr wz h ((fun z : Int32 × qa_M => z.2) z) := by
  unfold m_X12_isSquare at E
  have e_h : qfr wz h h := qfr_rf
  obtain ⟨-, E⟩ := qck_el E
  obtain ⟨c12, h12, E0, E⟩ := qbn_el E
  have e_h12 := qfr_tr e_h (qfr_sub qsub_nil (fr_X12_in x1.toInt64 (0 : Int64) (((h.1 120 (0 : Int32).toNatClampNeg) - (1 : Int32)).toInt64) h E0))
  rcases qif_el E with E | E
  · exact qsome_f (Q := fun z => qfr wz h ((fun z : Int32 × qa_M => z.2) z)) E e_h12
  · obtain ⟨-, E⟩ := qck_el E
    obtain ⟨c30, h30, E0, E⟩ := qbn_el E
    have e_h30 := qfr_tr e_h12 (qfr_sub qsub_nil (fr_X12_in x2.toInt64 (0 : Int64) (((h12.1 120 (1 : Int32).toNatClampNeg) - (1 : Int32)).toInt64) h12 E0))
    rcases qif_el E with E | E
    · exact qsome_f (Q := fun z => qfr wz h ((fun z : Int32 × qa_M => z.2) z)) E e_h30
    · exact qsome_f (Q := fun z => qfr wz h ((fun z : Int32 × qa_M => z.2) z)) E e_h30
theorem fr_X12_hillOn_b2 (x1 : Int32) (x2 : Int32) (h : qa_M) {z : ((Int32 × Int32 × qa_M) ⊕ (Int32 × qa_M))} (E : f_X12_hillOn_b2 x1 x2 h = some z) : qfr wz h ((Sum.elim (fun z : Int32 × Int32 × qa_M => z.2.2) (fun z : Int32 × qa_M => z.2)) z) := by
  unfold f_X12_hillOn_b2 at E
  have e_h : qfr wz h h := qfr_rf
  obtain ⟨-, E⟩ := qck_el E
  rcases qif_el E with E | E
  · refine qup_f (Q := fun z => qfr wz h ((Sum.elim (fun z : Int32 × Int32 × qa_M => z.2.2) (fun z : Int32 × qa_M => z.2)) z)) E (fun rz E => ?_)
    exact qsome_f (Q := fun z => qfr wz h ((fun z : Int32 × qa_M => z.2) z)) E e_h
  · obtain ⟨-, E⟩ := qck_el E
    rcases qif_el E with E | E
    · refine qup_f (Q := fun z => qfr wz h ((Sum.elim (fun z : Int32 × Int32 × qa_M => z.2.2) (fun z : Int32 × qa_M => z.2)) z)) E (fun rz E => ?_)
      exact qsome_f (Q := fun z => qfr wz h ((fun z : Int32 × qa_M => z.2) z)) E e_h
    · obtain ⟨v24, -, E⟩ := qbd_el E
      exact qsome_f (Q := fun z => qfr wz h ((Sum.elim (fun z : Int32 × Int32 × qa_M => z.2.2) (fun z : Int32 × qa_M => z.2)) z)) E e_h
theorem fr_X12_hillOn_b2_loop (x1 : Int32) (x2 : Int32) (h : qa_M) {z : (Int32 × qa_M)} (E : f_X12_hillOn_b2_loop x1 x2 h = some z) : qfr wz h ((fun z : Int32 × qa_M => z.2) z) :=
  qlp_ind (fun sz : Int32 × Int32 × qa_M => qfr wz (sz.2.2) ((fun z : Int32 × qa_M => z.2) z)) (fun sz E => fr_X12_hillOn_b2 sz.1 sz.2.1 sz.2.2 E) (fun sz sz2 E ih => qfr_tr (fr_X12_hillOn_b2 sz.1 sz.2.1 sz.2.2 E) ih) (x1, x2, h) E
theorem fr_X12_hillOn (x1 : Int32) (h : qa_M) {z : (Int32 × qa_M)} (E : m_X12_hillOn x1 h = some z) : qfr wz h ((fun z : Int32 × qa_M => z.2) z) := by
  unfold m_X12_hillOn at E
  have e_h : qfr wz h h := qfr_rf
  obtain ⟨v1, -, E⟩ := qbd_el E
  exact qfr_tr e_h (qfr_sub qsub_nil (fr_X12_hillOn_b2_loop x1 v1 h E))
theorem fr_X12_isWood (x1 : Int32) (h : qa_M) {z : (Int32 × qa_M)} (E : m_X12_isWood x1 h = some z) : qfr wz h ((fun z : Int32 × qa_M => z.2) z) := by
  unfold m_X12_isWood at E
  have e_h : qfr wz h h := qfr_rf
  obtain ⟨-, E⟩ := qck_el E
  rcases qif_el E with E | E
  · obtain ⟨c12, h12, E0, E⟩ := qbn_el E
    have e_h12 := qfr_tr e_h (qfr_sub qsub_nil (fr_X12_hillOn x1 h E0))
    rcases qif_el E with E | E
    · exact qsome_f (Q := fun z => qfr wz h ((fun z : Int32 × qa_M => z.2) z)) E e_h12
    · exact qsome_f (Q := fun z => qfr wz h ((fun z : Int32 × qa_M => z.2) z)) E e_h12
  · exact qsome_f (Q := fun z => qfr wz h ((fun z : Int32 × qa_M => z.2) z)) E e_h
theorem fr_X12_without (x0 : Int32) (h : qa_M) {z : (Int32 × qa_M)} (E : m_X12_without x0 h = some z) : qfr wz h ((fun z : Int32 × qa_M => z.2) z) := by
  unfold m_X12_without at E
  have e_h : qfr wz h h := qfr_rf
  rcases qif_el E with E | E
  · exact qsome_f (Q := fun z => qfr wz h ((fun z : Int32 × qa_M => z.2) z)) E e_h
  · exact qsome_f (Q := fun z => qfr wz h ((fun z : Int32 × qa_M => z.2) z)) E e_h
theorem fr_X12_apartOf (x0 : Int32) (x1 : Int32) (h : qa_M) {z : (Int32 × qa_M)} (E : m_X12_apartOf x0 x1 h = some z) : qfr wz h ((fun z : Int32 × qa_M => z.2) z) := by
  unfold m_X12_apartOf at E
  have e_h : qfr wz h h := qfr_rf
  obtain ⟨c9, h9, E0, E⟩ := qbn_el E
  have e_h9 := qfr_tr e_h (qfr_sub qsub_nil (fr_X12_without ((x0 - x0 / (6 : Int32) * (6 : Int32)) - (x1 - x1 / (6 : Int32) * (6 : Int32))) h E0))
  obtain ⟨v12, -, E⟩ := qbd_el E
  obtain ⟨c22, h22, E0, E⟩ := qbn_el E
  have e_h22 := qfr_tr e_h9 (qfr_sub qsub_nil (fr_X12_without ((x0 / (6 : Int32)) - (x1 / (6 : Int32))) h9 E0))
  obtain ⟨v25, -, E⟩ := qbd_el E
  rcases qif_el E with E | E
  · exact qsome_f (Q := fun z => qfr wz h ((fun z : Int32 × qa_M => z.2) z)) E e_h22
  · exact qsome_f (Q := fun z => qfr wz h ((fun z : Int32 × qa_M => z.2) z)) E e_h22
theorem fr_X12_floor (x0 : Int32) (x1 : Int32) (h : qa_M) {z : (Int32 × qa_M)} (E : m_X12_floor x0 x1 h = some z) : qfr wz h ((fun z : Int32 × qa_M => z.2) z) := by
  unfold m_X12_floor at E
  have e_h : qfr wz h h := qfr_rf
  obtain ⟨-, E⟩ := qnz_el E
  rcases qif_el E with E | E
  · obtain ⟨-, E⟩ := qnz_el E
    exact qsome_f (Q := fun z => qfr wz h ((fun z : Int32 × qa_M => z.2) z)) E e_h
  · obtain ⟨-, E⟩ := qnz_el E
    exact qsome_f (Q := fun z => qfr wz h ((fun z : Int32 × qa_M => z.2) z)) E e_h
theorem fr_X12_isSeen_b125 (x1 : Int32) (x4 : Int32) (x5 : Int32) (x6 : Int32) (x8 : Int32) (s0 : Int32) (h : qa_M) {z : ((Int32 × Int32 × Int32 × Int32 × Int32 × Int32 × qa_M) ⊕ (Int32 × qa_M))} (E : f_X12_isSeen_b125 x1 x4 x5 x6 x8 s0 h = some z) : qfr wz h ((Sum.elim (fun z : Int32 × Int32 × Int32 × Int32 × Int32 × Int32 × qa_M => z.2.2.2.2.2.2) (fun z : Int32 × qa_M => z.2)) z) := by
  unfold f_X12_isSeen_b125 at E
  have e_h : qfr wz h h := qfr_rf
  obtain ⟨v125, -, E⟩ := qbd_el E
  obtain ⟨v127, -, E⟩ := qbd_el E
  exact qsome_f (Q := fun z => qfr wz h ((Sum.elim (fun z : Int32 × Int32 × Int32 × Int32 × Int32 × Int32 × qa_M => z.2.2.2.2.2.2) (fun z : Int32 × qa_M => z.2)) z)) E e_h
theorem fr_X12_isSeen_b45 (x1 : Int32) (x4 : Int32) (x5 : Int32) (x6 : Int32) (x7 : Int32) (x8 : Int32) (h : qa_M) {z : ((Int32 × Int32 × Int32 × Int32 × Int32 × Int32 × qa_M) ⊕ (Int32 × qa_M))} (E : f_X12_isSeen_b45 x1 x4 x5 x6 x7 x8 h = some z) : qfr wz h ((Sum.elim (fun z : Int32 × Int32 × Int32 × Int32 × Int32 × Int32 × qa_M => z.2.2.2.2.2.2) (fun z : Int32 × qa_M => z.2)) z) := by
  unfold f_X12_isSeen_b45 at E
  have e_h : qfr wz h h := qfr_rf
  rcases qif_el E with E | E
  · obtain ⟨-, E⟩ := qpr_el E
    refine qup_f (Q := fun z => qfr wz h ((Sum.elim (fun z : Int32 × Int32 × Int32 × Int32 × Int32 × Int32 × qa_M => z.2.2.2.2.2.2) (fun z : Int32 × qa_M => z.2)) z)) E (fun rz E => ?_)
    exact qsome_f (Q := fun z => qfr wz h ((fun z : Int32 × qa_M => z.2) z)) E e_h
  · rcases qif_el E with E | E
    · obtain ⟨-, E⟩ := qpr_el E
      refine qup_f (Q := fun z => qfr wz h ((Sum.elim (fun z : Int32 × Int32 × Int32 × Int32 × Int32 × Int32 × qa_M => z.2.2.2.2.2.2) (fun z : Int32 × qa_M => z.2)) z)) E (fun rz E => ?_)
      exact qsome_f (Q := fun z => qfr wz h ((fun z : Int32 × qa_M => z.2) z)) E e_h
    · obtain ⟨c75, h75, E0, E⟩ := qbn_el E
      have e_h75 := qfr_tr e_h (qfr_sub qsub_nil (fr_X12_floor ((((2 : Int32) * x8) * x5) + x4) ((2 : Int32) * x4) h E0))
      obtain ⟨v79, -, E⟩ := qbd_el E
      obtain ⟨c99, h99, E0, E⟩ := qbn_el E
      have e_h99 := qfr_tr e_h75 (qfr_sub qsub_nil (fr_X12_floor ((((2 : Int32) * x8) * x6) + x4) ((2 : Int32) * x4) h75 E0))
      obtain ⟨v103, -, E⟩ := qbd_el E
      obtain ⟨c114, h114, E0, E⟩ := qbn_el E
      have e_h114 := qfr_tr e_h99 (qfr_sub qsub_nil (fr_X12_isWood (((6 : Int32) * v103) + v79) h99 E0))
      rcases qif_el E with E | E
      · exact qfr_tr e_h114 (qfr_sub qsub_nil (fr_X12_isSeen_b125 x1 x4 x5 x6 x8 (1 : Int32) h114 E))
      · exact qfr_tr e_h114 (qfr_sub qsub_nil (fr_X12_isSeen_b125 x1 x4 x5 x6 x8 (0 : Int32) h114 E))
theorem fr_X12_isSeen_b45_loop (x1 : Int32) (x4 : Int32) (x5 : Int32) (x6 : Int32) (x7 : Int32) (x8 : Int32) (h : qa_M) {z : (Int32 × qa_M)} (E : f_X12_isSeen_b45_loop x1 x4 x5 x6 x7 x8 h = some z) : qfr wz h ((fun z : Int32 × qa_M => z.2) z) :=
  qlp_ind (fun sz : Int32 × Int32 × Int32 × Int32 × Int32 × Int32 × qa_M => qfr wz (sz.2.2.2.2.2.2) ((fun z : Int32 × qa_M => z.2) z)) (fun sz E => fr_X12_isSeen_b45 sz.1 sz.2.1 sz.2.2.1 sz.2.2.2.1 sz.2.2.2.2.1 sz.2.2.2.2.2.1 sz.2.2.2.2.2.2 E) (fun sz sz2 E ih => qfr_tr (fr_X12_isSeen_b45 sz.1 sz.2.1 sz.2.2.1 sz.2.2.2.1 sz.2.2.2.2.1 sz.2.2.2.2.2.1 sz.2.2.2.2.2.2 E) ih) (x1, x4, x5, x6, x7, x8, h) E
theorem fr_X12_isSeen_b40 (x1 : Int32) (x4 : Int32) (x5 : Int32) (x6 : Int32) (s0 : Int32) (h : qa_M) {z : (Int32 × qa_M)} (E : f_X12_isSeen_b40 x1 x4 x5 x6 s0 h = some z) : qfr wz h ((fun z : Int32 × qa_M => z.2) z) := by
  unfold f_X12_isSeen_b40 at E
  have e_h : qfr wz h h := qfr_rf
  obtain ⟨v40, -, E⟩ := qbd_el E
  obtain ⟨v43, -, E⟩ := qbd_el E
  exact qfr_tr e_h (qfr_sub qsub_nil (fr_X12_isSeen_b45_loop x1 x4 x5 x6 v40 v43 h E))
theorem fr_X12_isSeen (x1 : Int32) (x2 : Int32) (x3 : Int32) (h : qa_M) {z : (Int32 × qa_M)} (E : m_X12_isSeen x1 x2 x3 h = some z) : qfr wz h ((fun z : Int32 × qa_M => z.2) z) := by
  unfold m_X12_isSeen at E
  have e_h : qfr wz h h := qfr_rf
  obtain ⟨c2, h2, E0, E⟩ := qbn_el E
  have e_h2 := qfr_tr e_h (qfr_sub qsub_nil (fr_X12_apartOf x1 x2 h E0))
  obtain ⟨v5, -, E⟩ := qbd_el E
  obtain ⟨v16, -, E⟩ := qbd_el E
  obtain ⟨v27, -, E⟩ := qbd_el E
  rcases qif_el E with E | E
  · exact qfr_tr e_h2 (qfr_sub qsub_nil (fr_X12_isSeen_b40 x1 v5 v16 v27 (0 : Int32) h2 E))
  · exact qfr_tr e_h2 (qfr_sub qsub_nil (fr_X12_isSeen_b40 x1 v5 v16 v27 (1 : Int32) h2 E))
theorem fr_X12_manySee_b40 (x1 : Int32) (x3 : Int32) (s0 : Int32) (s1 : Int32) (h : qa_M) {z : ((Int32 × Int32 × Int32 × qa_M) ⊕ (Int32 × qa_M))} (E : f_X12_manySee_b40 x1 x3 s0 s1 h = some z) : qfr wz h ((Sum.elim (fun z : Int32 × Int32 × Int32 × qa_M => z.2.2.2) (fun z : Int32 × qa_M => z.2)) z) := by
  unfold f_X12_manySee_b40 at E
  have e_h : qfr wz h h := qfr_rf
  obtain ⟨v41, -, E⟩ := qbd_el E
  obtain ⟨v42, -, E⟩ := qbd_el E
  exact qsome_f (Q := fun z => qfr wz h ((Sum.elim (fun z : Int32 × Int32 × Int32 × qa_M => z.2.2.2) (fun z : Int32 × qa_M => z.2)) z)) E e_h
theorem fr_X12_manySee_b4 (x1 : Int32) (x2 : Int32) (x3 : Int32) (h : qa_M) {z : ((Int32 × Int32 × Int32 × qa_M) ⊕ (Int32 × qa_M))} (E : f_X12_manySee_b4 x1 x2 x3 h = some z) : qfr wz h ((Sum.elim (fun z : Int32 × Int32 × Int32 × qa_M => z.2.2.2) (fun z : Int32 × qa_M => z.2)) z) := by
  unfold f_X12_manySee_b4 at E
  have e_h : qfr wz h h := qfr_rf
  obtain ⟨-, E⟩ := qck_el E
  rcases qif_el E with E | E
  · refine qup_f (Q := fun z => qfr wz h ((Sum.elim (fun z : Int32 × Int32 × Int32 × qa_M => z.2.2.2) (fun z : Int32 × qa_M => z.2)) z)) E (fun rz E => ?_)
    exact qsome_f (Q := fun z => qfr wz h ((fun z : Int32 × qa_M => z.2) z)) E e_h
  · obtain ⟨-, E⟩ := qck_el E
    obtain ⟨-, E⟩ := qck_el E
    obtain ⟨c29, h29, E0, E⟩ := qbn_el E
    have e_h29 := qfr_tr e_h (qfr_sub qsub_nil (fr_X12_isSeen (h.1 122 x3.toNatClampNeg) x1 (h.1 123 x3.toNatClampNeg) h E0))
    rcases qif_el E with E | E
    · exact qfr_tr e_h29 (qfr_sub qsub_nil (fr_X12_manySee_b40 x1 x3 x2 (0 : Int32) h29 E))
    · exact qfr_tr e_h29 (qfr_sub qsub_nil (fr_X12_manySee_b40 x1 x3 x2 (1 : Int32) h29 E))
theorem fr_X12_manySee_b4_loop (x1 : Int32) (x2 : Int32) (x3 : Int32) (h : qa_M) {z : (Int32 × qa_M)} (E : f_X12_manySee_b4_loop x1 x2 x3 h = some z) : qfr wz h ((fun z : Int32 × qa_M => z.2) z) :=
  qlp_ind (fun sz : Int32 × Int32 × Int32 × qa_M => qfr wz (sz.2.2.2) ((fun z : Int32 × qa_M => z.2) z)) (fun sz E => fr_X12_manySee_b4 sz.1 sz.2.1 sz.2.2.1 sz.2.2.2 E) (fun sz sz2 E ih => qfr_tr (fr_X12_manySee_b4 sz.1 sz.2.1 sz.2.2.1 sz.2.2.2 E) ih) (x1, x2, x3, h) E
theorem fr_X12_manySee (x1 : Int32) (h : qa_M) {z : (Int32 × qa_M)} (E : m_X12_manySee x1 h = some z) : qfr wz h ((fun z : Int32 × qa_M => z.2) z) := by
  unfold m_X12_manySee at E
  have e_h : qfr wz h h := qfr_rf
  obtain ⟨v1, -, E⟩ := qbd_el E
  obtain ⟨v3, -, E⟩ := qbd_el E
  exact qfr_tr e_h (qfr_sub qsub_nil (fr_X12_manySee_b4_loop x1 v1 v3 h E))
theorem fr_X12_roadSet_b97 (x1 : Int32) (x4 : Int32) (s0 : Int64) (s1 : Int64) (h : qa_M) {z : ((Int32 × Int64 × Int32 × qa_M) ⊕ (Int64 × qa_M))} (E : f_X12_roadSet_b97 x1 x4 s0 s1 h = some z) : qfr wz h ((Sum.elim (fun z : Int32 × Int64 × Int32 × qa_M => z.2.2.2) (fun z : Int64 × qa_M => z.2)) z) := by
  unfold f_X12_roadSet_b97 at E
  have e_h : qfr wz h h := qfr_rf
  obtain ⟨v98, -, E⟩ := qbd_el E
  obtain ⟨v99, -, E⟩ := qbd_el E
  exact qsome_f (Q := fun z => qfr wz h ((Sum.elim (fun z : Int32 × Int64 × Int32 × qa_M => z.2.2.2) (fun z : Int64 × qa_M => z.2)) z)) E e_h
theorem fr_X12_roadSet_b81 (x1 : Int32) (x2 : Int64) (x4 : Int32) (s0 : Int32) (h : qa_M) {z : ((Int32 × Int64 × Int32 × qa_M) ⊕ (Int64 × qa_M))} (E : f_X12_roadSet_b81 x1 x2 x4 s0 h = some z) : qfr wz h ((Sum.elim (fun z : Int32 × Int64 × Int32 × qa_M => z.2.2.2) (fun z : Int64 × qa_M => z.2)) z) := by
  unfold f_X12_roadSet_b81 at E
  have e_h : qfr wz h h := qfr_rf
  obtain ⟨v81, -, E⟩ := qbd_el E
  rcases qif_el E with E | E
  · exact qfr_tr e_h (qfr_sub qsub_nil (fr_X12_roadSet_b97 x1 x4 x2 (0 : Int64) h E))
  · exact qfr_tr e_h (qfr_sub qsub_nil (fr_X12_roadSet_b97 x1 x4 x2 (q_lshl (1 : Int64) x4) h E))
theorem fr_X12_roadSet_b80 (x1 : Int32) (x2 : Int64) (x4 : Int32) (h : qa_M) {z : ((Int32 × Int64 × Int32 × qa_M) ⊕ (Int64 × qa_M))} (E : f_X12_roadSet_b80 x1 x2 x4 h = some z) : qfr wz h ((Sum.elim (fun z : Int32 × Int64 × Int32 × qa_M => z.2.2.2) (fun z : Int64 × qa_M => z.2)) z) := by
  unfold f_X12_roadSet_b80 at E
  have e_h : qfr wz h h := qfr_rf
  exact qfr_tr e_h (qfr_sub qsub_nil (fr_X12_roadSet_b81 x1 x2 x4 (0 : Int32) h E))
theorem fr_X12_roadSet_b5 (x1 : Int32) (x2 : Int64) (x4 : Int32) (h : qa_M) {z : ((Int32 × Int64 × Int32 × qa_M) ⊕ (Int64 × qa_M))} (E : f_X12_roadSet_b5 x1 x2 x4 h = some z) : qfr wz h ((Sum.elim (fun z : Int32 × Int64 × Int32 × qa_M => z.2.2.2) (fun z : Int64 × qa_M => z.2)) z) := by
  unfold f_X12_roadSet_b5 at E
  have e_h : qfr wz h h := qfr_rf
  rcases qif_el E with E | E
  · refine qup_f (Q := fun z => qfr wz h ((Sum.elim (fun z : Int32 × Int64 × Int32 × qa_M => z.2.2.2) (fun z : Int64 × qa_M => z.2)) z)) E (fun rz E => ?_)
    exact qsome_f (Q := fun z => qfr wz h ((fun z : Int64 × qa_M => z.2) z)) E e_h
  · obtain ⟨-, E⟩ := qck_el E
    obtain ⟨-, E⟩ := qck_el E
    obtain ⟨c38, h38, E0, E⟩ := qbn_el E
    have e_h38 := qfr_tr e_h (qfr_sub qsub_nil (fr_X12_in ((x4 - x4 / (6 : Int32) * (6 : Int32)).toInt64) (((h.1 124 x1.toNatClampNeg) - (h.1 124 x1.toNatClampNeg) / (6 : Int32) * (6 : Int32)).toInt64) (((h.1 125 x1.toNatClampNeg) - (h.1 125 x1.toNatClampNeg) / (6 : Int32) * (6 : Int32)).toInt64) h E0))
    rcases qif_el E with E | E
    · exact qfr_tr e_h38 (qfr_sub qsub_nil (fr_X12_roadSet_b80 x1 x2 x4 h38 E))
    · obtain ⟨-, E⟩ := qck_el E
      obtain ⟨-, E⟩ := qck_el E
      obtain ⟨c70, h70, E0, E⟩ := qbn_el E
      have e_h70 := qfr_tr e_h38 (qfr_sub qsub_nil (fr_X12_in ((x4 / (6 : Int32)).toInt64) (((h38.1 124 x1.toNatClampNeg) / (6 : Int32)).toInt64) (((h38.1 125 x1.toNatClampNeg) / (6 : Int32)).toInt64) h38 E0))
      rcases qif_el E with E | E
      · exact qfr_tr e_h70 (qfr_sub qsub_nil (fr_X12_roadSet_b80 x1 x2 x4 h70 E))
      · exact qfr_tr e_h70 (qfr_sub qsub_nil (fr_X12_roadSet_b81 x1 x2 x4 (1 : Int32) h70 E))
theorem fr_X12_roadSet_b5_loop (x1 : Int32) (x2 : Int64) (x4 : Int32) (h : qa_M) {z : (Int64 × qa_M)} (E : f_X12_roadSet_b5_loop x1 x2 x4 h = some z) : qfr wz h ((fun z : Int64 × qa_M => z.2) z) :=
  qlp_ind (fun sz : Int32 × Int64 × Int32 × qa_M => qfr wz (sz.2.2.2) ((fun z : Int64 × qa_M => z.2) z)) (fun sz E => fr_X12_roadSet_b5 sz.1 sz.2.1 sz.2.2.1 sz.2.2.2 E) (fun sz sz2 E ih => qfr_tr (fr_X12_roadSet_b5 sz.1 sz.2.1 sz.2.2.1 sz.2.2.2 E) ih) (x1, x2, x4, h) E
theorem fr_X12_roadSet (x1 : Int32) (h : qa_M) {z : (Int64 × qa_M)} (E : m_X12_roadSet x1 h = some z) : qfr wz h ((fun z : Int64 × qa_M => z.2) z) := by
  unfold m_X12_roadSet at E
  have e_h : qfr wz h h := qfr_rf
  obtain ⟨v1, -, E⟩ := qbd_el E
  obtain ⟨v3, -, E⟩ := qbd_el E
  exact qfr_tr e_h (qfr_sub qsub_nil (fr_X12_roadSet_b5_loop x1 v1 v3 h E))
theorem fr_X12_has (x0 : Int64) (x2 : Int32) (h : qa_M) {z : (Int32 × qa_M)} (E : m_X12_has x0 x2 h = some z) : qfr wz h ((fun z : Int32 × qa_M => z.2) z) := by
  unfold m_X12_has at E
  have e_h : qfr wz h h := qfr_rf
  rcases qif_el E with E | E
  · exact qsome_f (Q := fun z => qfr wz h ((fun z : Int32 × qa_M => z.2) z)) E e_h
  · exact qsome_f (Q := fun z => qfr wz h ((fun z : Int32 × qa_M => z.2) z)) E e_h
theorem fr_X12_manyRoads_b32 (x1 : Int32) (x3 : Int32) (s0 : Int32) (s1 : Int32) (h : qa_M) {z : ((Int32 × Int32 × Int32 × qa_M) ⊕ (Int32 × qa_M))} (E : f_X12_manyRoads_b32 x1 x3 s0 s1 h = some z) : qfr wz h ((Sum.elim (fun z : Int32 × Int32 × Int32 × qa_M => z.2.2.2) (fun z : Int32 × qa_M => z.2)) z) := by
  unfold f_X12_manyRoads_b32 at E
  have e_h : qfr wz h h := qfr_rf
  obtain ⟨v33, -, E⟩ := qbd_el E
  obtain ⟨v34, -, E⟩ := qbd_el E
  exact qsome_f (Q := fun z => qfr wz h ((Sum.elim (fun z : Int32 × Int32 × Int32 × qa_M => z.2.2.2) (fun z : Int32 × qa_M => z.2)) z)) E e_h
theorem fr_X12_manyRoads_b4 (x1 : Int32) (x2 : Int32) (x3 : Int32) (h : qa_M) {z : ((Int32 × Int32 × Int32 × qa_M) ⊕ (Int32 × qa_M))} (E : f_X12_manyRoads_b4 x1 x2 x3 h = some z) : qfr wz h ((Sum.elim (fun z : Int32 × Int32 × Int32 × qa_M => z.2.2.2) (fun z : Int32 × qa_M => z.2)) z) := by
  unfold f_X12_manyRoads_b4 at E
  have e_h : qfr wz h h := qfr_rf
  obtain ⟨-, E⟩ := qck_el E
  rcases qif_el E with E | E
  · refine qup_f (Q := fun z => qfr wz h ((Sum.elim (fun z : Int32 × Int32 × Int32 × qa_M => z.2.2.2) (fun z : Int32 × qa_M => z.2)) z)) E (fun rz E => ?_)
    exact qsome_f (Q := fun z => qfr wz h ((fun z : Int32 × qa_M => z.2) z)) E e_h
  · obtain ⟨c17, h17, E0, E⟩ := qbn_el E
    have e_h17 := qfr_tr e_h (qfr_sub qsub_nil (fr_X12_roadSet x3 h E0))
    obtain ⟨c21, h21, E0, E⟩ := qbn_el E
    have e_h21 := qfr_tr e_h17 (qfr_sub qsub_nil (fr_X12_has c17 x1 h17 E0))
    rcases qif_el E with E | E
    · exact qfr_tr e_h21 (qfr_sub qsub_nil (fr_X12_manyRoads_b32 x1 x3 x2 (0 : Int32) h21 E))
    · exact qfr_tr e_h21 (qfr_sub qsub_nil (fr_X12_manyRoads_b32 x1 x3 x2 (1 : Int32) h21 E))
theorem fr_X12_manyRoads_b4_loop (x1 : Int32) (x2 : Int32) (x3 : Int32) (h : qa_M) {z : (Int32 × qa_M)} (E : f_X12_manyRoads_b4_loop x1 x2 x3 h = some z) : qfr wz h ((fun z : Int32 × qa_M => z.2) z) :=
  qlp_ind (fun sz : Int32 × Int32 × Int32 × qa_M => qfr wz (sz.2.2.2) ((fun z : Int32 × qa_M => z.2) z)) (fun sz E => fr_X12_manyRoads_b4 sz.1 sz.2.1 sz.2.2.1 sz.2.2.2 E) (fun sz sz2 E ih => qfr_tr (fr_X12_manyRoads_b4 sz.1 sz.2.1 sz.2.2.1 sz.2.2.2 E) ih) (x1, x2, x3, h) E
theorem fr_X12_manyRoads (x1 : Int32) (h : qa_M) {z : (Int32 × qa_M)} (E : m_X12_manyRoads x1 h = some z) : qfr wz h ((fun z : Int32 × qa_M => z.2) z) := by
  unfold m_X12_manyRoads at E
  have e_h : qfr wz h h := qfr_rf
  obtain ⟨v1, -, E⟩ := qbd_el E
  obtain ⟨v3, -, E⟩ := qbd_el E
  exact qfr_tr e_h (qfr_sub qsub_nil (fr_X12_manyRoads_b4_loop x1 v1 v3 h E))
theorem fr_X12_isThere (x1 : Int32) (h : qa_M) {z : (Int32 × qa_M)} (E : m_X12_isThere x1 h = some z) : qfr wz h ((fun z : Int32 × qa_M => z.2) z) := by
  unfold m_X12_isThere at E
  have e_h : qfr wz h h := qfr_rf
  obtain ⟨c9, h9, E0, E⟩ := qbn_el E
  have e_h9 := qfr_tr e_h (qfr_sub qsub_nil (fr_X12_isSquare (x1 - x1 / (6 : Int32) * (6 : Int32)) (x1 / (6 : Int32)) h E0))
  obtain ⟨-, E⟩ := qpr_el E
  exact qsome_f (Q := fun z => qfr wz h ((fun z : Int32 × qa_M => z.2) z)) E e_h9
theorem fr_X12_woodsBeside_b41 (x1 : Int32) (x3 : Int32) (s0 : Int32) (s1 : Int32) (h : qa_M) {z : ((Int32 × Int32 × Int32 × qa_M) ⊕ (Int32 × qa_M))} (E : f_X12_woodsBeside_b41 x1 x3 s0 s1 h = some z) : qfr wz h ((Sum.elim (fun z : Int32 × Int32 × Int32 × qa_M => z.2.2.2) (fun z : Int32 × qa_M => z.2)) z) := by
  unfold f_X12_woodsBeside_b41 at E
  have e_h : qfr wz h h := qfr_rf
  obtain ⟨v42, -, E⟩ := qbd_el E
  obtain ⟨v43, -, E⟩ := qbd_el E
  exact qsome_f (Q := fun z => qfr wz h ((Sum.elim (fun z : Int32 × Int32 × Int32 × qa_M => z.2.2.2) (fun z : Int32 × qa_M => z.2)) z)) E e_h
theorem fr_X12_woodsBeside_b40 (x1 : Int32) (x3 : Int32) (s0 : Int32) (h : qa_M) {z : ((Int32 × Int32 × Int32 × qa_M) ⊕ (Int32 × qa_M))} (E : f_X12_woodsBeside_b40 x1 x3 s0 h = some z) : qfr wz h ((Sum.elim (fun z : Int32 × Int32 × Int32 × qa_M => z.2.2.2) (fun z : Int32 × qa_M => z.2)) z) := by
  unfold f_X12_woodsBeside_b40 at E
  have e_h : qfr wz h h := qfr_rf
  exact qfr_tr e_h (qfr_sub qsub_nil (fr_X12_woodsBeside_b41 x1 x3 s0 (0 : Int32) h E))
theorem fr_X12_woodsBeside_b4 (x1 : Int32) (x2 : Int32) (x3 : Int32) (h : qa_M) {z : ((Int32 × Int32 × Int32 × qa_M) ⊕ (Int32 × qa_M))} (E : f_X12_woodsBeside_b4 x1 x2 x3 h = some z) : qfr wz h ((Sum.elim (fun z : Int32 × Int32 × Int32 × qa_M => z.2.2.2) (fun z : Int32 × qa_M => z.2)) z) := by
  unfold f_X12_woodsBeside_b4 at E
  have e_h : qfr wz h h := qfr_rf
  rcases qif_el E with E | E
  · refine qup_f (Q := fun z => qfr wz h ((Sum.elim (fun z : Int32 × Int32 × Int32 × qa_M => z.2.2.2) (fun z : Int32 × qa_M => z.2)) z)) E (fun rz E => ?_)
    exact qsome_f (Q := fun z => qfr wz h ((fun z : Int32 × qa_M => z.2) z)) E e_h
  · obtain ⟨c13, h13, E0, E⟩ := qbn_el E
    have e_h13 := qfr_tr e_h (qfr_sub qsub_nil (fr_X12_isThere x3 h E0))
    rcases qif_el E with E | E
    · exact qfr_tr e_h13 (qfr_sub qsub_nil (fr_X12_woodsBeside_b40 x1 x3 x2 h13 E))
    · obtain ⟨c21, h21, E0, E⟩ := qbn_el E
      have e_h21 := qfr_tr e_h13 (qfr_sub qsub_nil (fr_X12_apartOf x3 x1 h13 E0))
      rcases qif_el E with E | E
      · obtain ⟨c30, h30, E0, E⟩ := qbn_el E
        have e_h30 := qfr_tr e_h21 (qfr_sub qsub_nil (fr_X12_isWood x3 h21 E0))
        rcases qif_el E with E | E
        · exact qfr_tr e_h30 (qfr_sub qsub_nil (fr_X12_woodsBeside_b40 x1 x3 x2 h30 E))
        · exact qfr_tr e_h30 (qfr_sub qsub_nil (fr_X12_woodsBeside_b41 x1 x3 x2 (1 : Int32) h30 E))
      · exact qfr_tr e_h21 (qfr_sub qsub_nil (fr_X12_woodsBeside_b40 x1 x3 x2 h21 E))
theorem fr_X12_woodsBeside_b4_loop (x1 : Int32) (x2 : Int32) (x3 : Int32) (h : qa_M) {z : (Int32 × qa_M)} (E : f_X12_woodsBeside_b4_loop x1 x2 x3 h = some z) : qfr wz h ((fun z : Int32 × qa_M => z.2) z) :=
  qlp_ind (fun sz : Int32 × Int32 × Int32 × qa_M => qfr wz (sz.2.2.2) ((fun z : Int32 × qa_M => z.2) z)) (fun sz E => fr_X12_woodsBeside_b4 sz.1 sz.2.1 sz.2.2.1 sz.2.2.2 E) (fun sz sz2 E ih => qfr_tr (fr_X12_woodsBeside_b4 sz.1 sz.2.1 sz.2.2.1 sz.2.2.2 E) ih) (x1, x2, x3, h) E
theorem fr_X12_woodsBeside (x1 : Int32) (h : qa_M) {z : (Int32 × qa_M)} (E : m_X12_woodsBeside x1 h = some z) : qfr wz h ((fun z : Int32 × qa_M => z.2) z) := by
  unfold m_X12_woodsBeside at E
  have e_h : qfr wz h h := qfr_rf
  obtain ⟨v1, -, E⟩ := qbd_el E
  obtain ⟨v3, -, E⟩ := qbd_el E
  exact qfr_tr e_h (qfr_sub qsub_nil (fr_X12_woodsBeside_b4_loop x1 v1 v3 h E))
def wf_X12_asks_b166 : List (Nat × Nat) := [(149, 0)]
theorem fr_X12_asks_b166 (s1 : Int32) (s2 : Int64) (h : qa_M) {z : qa_M} (E : f_X12_asks_b166 s1 s2 h = some z) : qfr wf_X12_asks_b166 h ((fun z : qa_M => z) z) := by
  unfold f_X12_asks_b166 at E
  have e_h : qfr wf_X12_asks_b166 h h := qfr_rf
  obtain ⟨-, E⟩ := qck_el E
  obtain ⟨h166, q_h166, E⟩ := qbd_el E
  have e_h166 := qfr_J0 q_h166 (List.mem_of_getElem? (i := 0) rfl) e_h
  exact qsome_f (Q := fun z => qfr wf_X12_asks_b166 h ((fun z : qa_M => z) z)) E e_h166
def wf_X12_asks_b105 : List (Nat × Nat) := [(149, 0)]
theorem fr_X12_asks_b105 (x1 : Int32) (x4 : Int32) (x5 : Int32) (x6 : Int32) (s1 : Int32) (s2 : Int64) (h : qa_M) {z : qa_M} (E : f_X12_asks_b105 x1 x4 x5 x6 s1 s2 h = some z) : qfr wf_X12_asks_b105 h ((fun z : qa_M => z) z) := by
  unfold f_X12_asks_b105 at E
  have e_h : qfr wf_X12_asks_b105 h h := qfr_rf
  obtain ⟨-, E⟩ := qck_el E
  obtain ⟨h105, q_h105, E⟩ := qbd_el E
  have e_h105 := qfr_J0 q_h105 (List.mem_of_getElem? (i := 0) rfl) e_h
  obtain ⟨c113, h113, E0, E⟩ := qbn_el E
  have e_h113 := qfr_tr e_h105 (qfr_sub qsub_nil (fr_X12_manyRoads x1 h105 E0))
  obtain ⟨-, E⟩ := qck_el E
  obtain ⟨h117, q_h117, E⟩ := qbd_el E
  have e_h117 := qfr_J0 q_h117 (List.mem_of_getElem? (i := 0) rfl) e_h113
  rcases qif_el E with E | E
  · rcases qif_el E with E | E
    · exact qfr_tr e_h117 (qfr_sub (qsub_c (List.mem_of_getElem? (i := 0) rfl) qsub_nil) (fr_X12_asks_b166 (6 : Int32) x6.toInt64 h117 E))
    · exact qfr_tr e_h117 (qfr_sub (qsub_c (List.mem_of_getElem? (i := 0) rfl) qsub_nil) (fr_X12_asks_b166 (6 : Int32) x5.toInt64 h117 E))
  · rcases qif_el E with E | E
    · exact qfr_tr e_h117 (qfr_sub (qsub_c (List.mem_of_getElem? (i := 0) rfl) qsub_nil) (fr_X12_asks_b166 (6 : Int32) x6.toInt64 h117 E))
    · exact qfr_tr e_h117 (qfr_sub (qsub_c (List.mem_of_getElem? (i := 0) rfl) qsub_nil) (fr_X12_asks_b166 (6 : Int32) x4.toInt64 h117 E))
def wf_X12_asks_b20 : List (Nat × Nat) := [(149, 0)]
theorem fr_X12_asks_b20 (x1 : Int32) (x2 : Int32) (x3 : Int32) (s0 : Int32) (h : qa_M) {z : qa_M} (E : f_X12_asks_b20 x1 x2 x3 s0 h = some z) : qfr wf_X12_asks_b20 h ((fun z : qa_M => z) z) := by
  unfold f_X12_asks_b20 at E
  have e_h : qfr wf_X12_asks_b20 h h := qfr_rf
  obtain ⟨v20, -, E⟩ := qbd_el E
  obtain ⟨-, E⟩ := qck_el E
  obtain ⟨v32, -, E⟩ := qbd_el E
  obtain ⟨-, E⟩ := qck_el E
  obtain ⟨v44, -, E⟩ := qbd_el E
  obtain ⟨-, E⟩ := qck_el E
  obtain ⟨h53, q_h53, E⟩ := qbd_el E
  have e_h53 := qfr_J0 q_h53 (List.mem_of_getElem? (i := 0) rfl) e_h
  obtain ⟨-, E⟩ := qck_el E
  obtain ⟨h61, q_h61, E⟩ := qbd_el E
  have e_h61 := qfr_J0 q_h61 (List.mem_of_getElem? (i := 0) rfl) e_h53
  obtain ⟨c69, h69, E0, E⟩ := qbn_el E
  have e_h69 := qfr_tr e_h61 (qfr_sub qsub_nil (fr_X12_woodsBeside x1 h61 E0))
  obtain ⟨-, E⟩ := qck_el E
  obtain ⟨h73, q_h73, E⟩ := qbd_el E
  have e_h73 := qfr_J0 q_h73 (List.mem_of_getElem? (i := 0) rfl) e_h69
  obtain ⟨c81, h81, E0, E⟩ := qbn_el E
  have e_h81 := qfr_tr e_h73 (qfr_sub qsub_nil (fr_X12_manySee x1 h73 E0))
  obtain ⟨-, E⟩ := qck_el E
  obtain ⟨h85, q_h85, E⟩ := qbd_el E
  have e_h85 := qfr_J0 q_h85 (List.mem_of_getElem? (i := 0) rfl) e_h81
  obtain ⟨c93, h93, E0, E⟩ := qbn_el E
  have e_h93 := qfr_tr e_h85 (qfr_sub qsub_nil (fr_X12_hillOn x1 h85 E0))
  rcases qif_el E with E | E
  · exact qfr_tr e_h93 (qfr_sub (qsub_c (List.mem_of_getElem? (i := 0) rfl) qsub_nil) (fr_X12_asks_b105 x1 v20 v32 v44 (4 : Int32) (0 : Int64) h93 E))
  · exact qfr_tr e_h93 (qfr_sub (qsub_c (List.mem_of_getElem? (i := 0) rfl) qsub_nil) (fr_X12_asks_b105 x1 v20 v32 v44 (4 : Int32) (1 : Int64) h93 E))
def w_X12_asks : List (Nat × Nat) := [(149, 0)]
theorem fr_X12_asks (x1 : Int32) (h : qa_M) {z : qa_M} (E : m_X12_asks x1 h = some z) : qfr w_X12_asks h ((fun z : qa_M => z) z) := by
  unfold m_X12_asks at E
  have e_h : qfr w_X12_asks h h := qfr_rf
  obtain ⟨v4, -, E⟩ := qbd_el E
  obtain ⟨v9, -, E⟩ := qbd_el E
  rcases qif_el E with E | E
  · exact qfr_tr e_h (qfr_sub (qsub_c (List.mem_of_getElem? (i := 0) rfl) qsub_nil) (fr_X12_asks_b20 x1 v4 v9 v9 h E))
  · exact qfr_tr e_h (qfr_sub (qsub_c (List.mem_of_getElem? (i := 0) rfl) qsub_nil) (fr_X12_asks_b20 x1 v4 v9 v4 h E))
theorem fr_X12_truth (x0 : Int32) (h : qa_M) {z : (Int64 × qa_M)} (E : m_X12_truth x0 h = some z) : qfr wz h ((fun z : Int64 × qa_M => z.2) z) := by
  unfold m_X12_truth at E
  have e_h : qfr wz h h := qfr_rf
  rcases qif_el E with E | E
  · exact qsome_f (Q := fun z => qfr wz h ((fun z : Int64 × qa_M => z.2) z)) E e_h
  · exact qsome_f (Q := fun z => qfr wz h ((fun z : Int64 × qa_M => z.2) z)) E e_h
theorem fr_X12_both_b105 (s0 : Int32) (h : qa_M) {z : (Int64 × qa_M)} (E : f_X12_both_b105 s0 h = some z) : qfr wz h ((fun z : Int64 × qa_M => z.2) z) := by
  unfold f_X12_both_b105 at E
  have e_h : qfr wz h h := qfr_rf
  obtain ⟨c105, h105, E0, E⟩ := qbn_el E
  have e_h105 := qfr_tr e_h (qfr_sub qsub_nil (fr_X12_truth s0 h E0))
  exact qsome_f (Q := fun z => qfr wz h ((fun z : Int64 × qa_M => z.2) z)) E e_h105
theorem fr_X12_both_b120 (s0 : Int32) (h : qa_M) {z : (Int64 × qa_M)} (E : f_X12_both_b120 s0 h = some z) : qfr wz h ((fun z : Int64 × qa_M => z.2) z) := by
  unfold f_X12_both_b120 at E
  have e_h : qfr wz h h := qfr_rf
  obtain ⟨c120, h120, E0, E⟩ := qbn_el E
  have e_h120 := qfr_tr e_h (qfr_sub qsub_nil (fr_X12_truth s0 h E0))
  exact qsome_f (Q := fun z => qfr wz h ((fun z : Int64 × qa_M => z.2) z)) E e_h120
theorem fr_X12_both_b135 (s0 : Int32) (h : qa_M) {z : (Int64 × qa_M)} (E : f_X12_both_b135 s0 h = some z) : qfr wz h ((fun z : Int64 × qa_M => z.2) z) := by
  unfold f_X12_both_b135 at E
  have e_h : qfr wz h h := qfr_rf
  obtain ⟨c135, h135, E0, E⟩ := qbn_el E
  have e_h135 := qfr_tr e_h (qfr_sub qsub_nil (fr_X12_truth s0 h E0))
  exact qsome_f (Q := fun z => qfr wz h ((fun z : Int64 × qa_M => z.2) z)) E e_h135
theorem fr_X12_both_b150 (s0 : Int32) (h : qa_M) {z : (Int64 × qa_M)} (E : f_X12_both_b150 s0 h = some z) : qfr wz h ((fun z : Int64 × qa_M => z.2) z) := by
  unfold f_X12_both_b150 at E
  have e_h : qfr wz h h := qfr_rf
  obtain ⟨c150, h150, E0, E⟩ := qbn_el E
  have e_h150 := qfr_tr e_h (qfr_sub qsub_nil (fr_X12_truth s0 h E0))
  exact qsome_f (Q := fun z => qfr wz h ((fun z : Int64 × qa_M => z.2) z)) E e_h150
theorem fr_X12_both_b165 (s0 : Int32) (h : qa_M) {z : (Int64 × qa_M)} (E : f_X12_both_b165 s0 h = some z) : qfr wz h ((fun z : Int64 × qa_M => z.2) z) := by
  unfold f_X12_both_b165 at E
  have e_h : qfr wz h h := qfr_rf
  obtain ⟨c165, h165, E0, E⟩ := qbn_el E
  have e_h165 := qfr_tr e_h (qfr_sub qsub_nil (fr_X12_truth s0 h E0))
  exact qsome_f (Q := fun z => qfr wz h ((fun z : Int64 × qa_M => z.2) z)) E e_h165
theorem fr_X12_both_b173 (x1 : Int64) (x3 : Int64) (h : qa_M) {z : (Int64 × qa_M)} (E : f_X12_both_b173 x1 x3 h = some z) : qfr wz h ((fun z : Int64 × qa_M => z.2) z) := by
  unfold f_X12_both_b173 at E
  have e_h : qfr wz h h := qfr_rf
  exact qsome_f (Q := fun z => qfr wz h ((fun z : Int64 × qa_M => z.2) z)) E e_h
theorem fr_X12_both (x0 : Int32) (x1 : Int64) (x3 : Int64) (h : qa_M) {z : (Int64 × qa_M)} (E : m_X12_both x0 x1 x3 h = some z) : qfr wz h ((fun z : Int64 × qa_M => z.2) z) := by
  unfold m_X12_both at E
  have e_h : qfr wz h h := qfr_rf
  rcases qif_el E with E | E
  · exact qsome_f (Q := fun z => qfr wz h ((fun z : Int64 × qa_M => z.2) z)) E e_h
  · rcases qif_el E with E | E
    · exact qsome_f (Q := fun z => qfr wz h ((fun z : Int64 × qa_M => z.2) z)) E e_h
    · rcases qif_el E with E | E
      · rcases qif_el E with E | E
        · exact qfr_tr e_h (qfr_sub qsub_nil (fr_X12_both_b105 (0 : Int32) h E))
        · exact qfr_tr e_h (qfr_sub qsub_nil (fr_X12_both_b105 (1 : Int32) h E))
      · rcases qif_el E with E | E
        · rcases qif_el E with E | E
          · exact qfr_tr e_h (qfr_sub qsub_nil (fr_X12_both_b120 (0 : Int32) h E))
          · exact qfr_tr e_h (qfr_sub qsub_nil (fr_X12_both_b120 (1 : Int32) h E))
        · rcases qif_el E with E | E
          · rcases qif_el E with E | E
            · exact qfr_tr e_h (qfr_sub qsub_nil (fr_X12_both_b135 (1 : Int32) h E))
            · exact qfr_tr e_h (qfr_sub qsub_nil (fr_X12_both_b135 (0 : Int32) h E))
          · rcases qif_el E with E | E
            · rcases qif_el E with E | E
              · exact qfr_tr e_h (qfr_sub qsub_nil (fr_X12_both_b150 (0 : Int32) h E))
              · exact qfr_tr e_h (qfr_sub qsub_nil (fr_X12_both_b150 (1 : Int32) h E))
            · rcases qif_el E with E | E
              · rcases qif_el E with E | E
                · exact qfr_tr e_h (qfr_sub qsub_nil (fr_X12_both_b165 (0 : Int32) h E))
                · exact qfr_tr e_h (qfr_sub qsub_nil (fr_X12_both_b165 (1 : Int32) h E))
              · rcases qif_el E with E | E
                · exact qfr_tr e_h (qfr_sub qsub_nil (fr_X12_both_b173 x1 x3 h E))
                · rcases qif_el E with E | E
                  · exact qsome_f (Q := fun z => qfr wz h ((fun z : Int64 × qa_M => z.2) z)) E e_h
                  · rcases qif_el E with E | E
                    · exact qfr_tr e_h (qfr_sub qsub_nil (fr_X12_both_b173 x1 x3 h E))
                    · rcases qif_el E with E | E
                      · exact qfr_tr e_h (qfr_sub qsub_nil (fr_X12_both_b173 x1 x3 h E))
                      · rcases qif_el E with E | E
                        · exact qsome_f (Q := fun z => qfr wz h ((fun z : Int64 × qa_M => z.2) z)) E e_h
                        · rcases qif_el E with E | E
                          · rcases qif_el E with E | E
                            · exact qsome_f (Q := fun z => qfr wz h ((fun z : Int64 × qa_M => z.2) z)) E e_h
                            · obtain ⟨-, E⟩ := qnz_el E
                              exact qsome_f (Q := fun z => qfr wz h ((fun z : Int64 × qa_M => z.2) z)) E e_h
                          · exact qfr_tr e_h (qfr_sub qsub_nil (fr_X12_both_b173 x1 x3 h E))
theorem fr_X12_answer_b153 (h : qa_M) {z : (Int64 × qa_M)} (E : f_X12_answer_b153 h = some z) : qfr wz h ((fun z : Int64 × qa_M => z.2) z) := by
  unfold f_X12_answer_b153 at E
  have e_h : qfr wz h h := qfr_rf
  obtain ⟨-, E⟩ := qck_el E
  exact qsome_f (Q := fun z => qfr wz h ((fun z : Int64 × qa_M => z.2) z)) E e_h
theorem fr_X12_answer_b147 (x1 : Int32) (x3 : Int32) (x4 : Int32) (x5 : Int32) (h : qa_M) {z : ((Int32 × Int32 × Int32 × Int32 × qa_M) ⊕ (Int64 × qa_M))} (E : f_X12_answer_b147 x1 x3 x4 x5 h = some z) : qfr wz h ((Sum.elim (fun z : Int32 × Int32 × Int32 × Int32 × qa_M => z.2.2.2.2) (fun z : Int64 × qa_M => z.2)) z) := by
  unfold f_X12_answer_b147 at E
  have e_h : qfr wz h h := qfr_rf
  obtain ⟨v147, -, E⟩ := qbd_el E
  exact qsome_f (Q := fun z => qfr wz h ((Sum.elim (fun z : Int32 × Int32 × Int32 × Int32 × qa_M => z.2.2.2.2) (fun z : Int64 × qa_M => z.2)) z)) E e_h
def wf_X12_answer_b77 : List (Nat × Nat) := [(150, 0)]
theorem fr_X12_answer_b77 (x1 : Int32) (x3 : Int32) (x4 : Int32) (x5 : Int32) (s1 : Int32) (s2 : Int64) (h : qa_M) {z : ((Int32 × Int32 × Int32 × Int32 × qa_M) ⊕ (Int64 × qa_M))} (E : f_X12_answer_b77 x1 x3 x4 x5 s1 s2 h = some z) : qfr wf_X12_answer_b77 h ((Sum.elim (fun z : Int32 × Int32 × Int32 × Int32 × qa_M => z.2.2.2.2) (fun z : Int64 × qa_M => z.2)) z) := by
  unfold f_X12_answer_b77 at E
  have e_h : qfr wf_X12_answer_b77 h h := qfr_rf
  obtain ⟨-, E⟩ := qck_el E
  obtain ⟨h77, q_h77, E⟩ := qbd_el E
  have e_h77 := qfr_J0 q_h77 (List.mem_of_getElem? (i := 0) rfl) e_h
  obtain ⟨v78, -, E⟩ := qbd_el E
  exact qfr_tr e_h77 (qfr_sub qsub_nil (fr_X12_answer_b147 x1 x3 v78 x5 h77 E))
def wf_X12_answer_b53 : List (Nat × Nat) := [(150, 0)]
theorem fr_X12_answer_b53 (x1 : Int32) (x3 : Int32) (x4 : Int32) (x5 : Int32) (x6 : Int32) (x7 : Int32) (h : qa_M) {z : ((Int32 × Int32 × Int32 × Int32 × qa_M) ⊕ (Int64 × qa_M))} (E : f_X12_answer_b53 x1 x3 x4 x5 x6 x7 h = some z) : qfr wf_X12_answer_b53 h ((Sum.elim (fun z : Int32 × Int32 × Int32 × Int32 × qa_M => z.2.2.2.2) (fun z : Int64 × qa_M => z.2)) z) := by
  unfold f_X12_answer_b53 at E
  have e_h : qfr wf_X12_answer_b53 h h := qfr_rf
  rcases qif_el E with E | E
  · exact qfr_tr e_h (qfr_sub (qsub_c (List.mem_of_getElem? (i := 0) rfl) qsub_nil) (fr_X12_answer_b77 x1 x3 x4 x5 x4 x7.toInt64 h E))
  · obtain ⟨-, E⟩ := qck_el E
    exact qfr_tr e_h (qfr_sub (qsub_c (List.mem_of_getElem? (i := 0) rfl) qsub_nil) (fr_X12_answer_b77 x1 x3 x4 x5 x4 (h.2.1 149 x7.toNatClampNeg) h E))
def wf_X12_answer_b6 : List (Nat × Nat) := [(150, 0)]
theorem fr_X12_answer_b6 (x1 : Int32) (x3 : Int32) (x4 : Int32) (x5 : Int32) (h : qa_M) {z : ((Int32 × Int32 × Int32 × Int32 × qa_M) ⊕ (Int64 × qa_M))} (E : f_X12_answer_b6 x1 x3 x4 x5 h = some z) : qfr wf_X12_answer_b6 h ((Sum.elim (fun z : Int32 × Int32 × Int32 × Int32 × qa_M => z.2.2.2.2) (fun z : Int64 × qa_M => z.2)) z) := by
  unfold f_X12_answer_b6 at E
  have e_h : qfr wf_X12_answer_b6 h h := qfr_rf
  rcases qif_el E with E | E
  · refine qup_f (Q := fun z => qfr wf_X12_answer_b6 h ((Sum.elim (fun z : Int32 × Int32 × Int32 × Int32 × qa_M => z.2.2.2.2) (fun z : Int64 × qa_M => z.2)) z)) E (fun rz E => ?_)
    exact qfr_tr e_h (qfr_sub qsub_nil (fr_X12_answer_b153 h E))
  · obtain ⟨-, E⟩ := qck_el E
    obtain ⟨v25, -, E⟩ := qbd_el E
    obtain ⟨-, E⟩ := qck_el E
    obtain ⟨v40, -, E⟩ := qbd_el E
    rcases qif_el E with E | E
    · exact qfr_tr e_h (qfr_sub (qsub_c (List.mem_of_getElem? (i := 0) rfl) qsub_nil) (fr_X12_answer_b53 x1 x3 x4 x5 v25 v40 h E))
    · rcases qif_el E with E | E
      · exact qfr_tr e_h (qfr_sub (qsub_c (List.mem_of_getElem? (i := 0) rfl) qsub_nil) (fr_X12_answer_b53 x1 x3 x4 x5 v25 v40 h E))
      · rcases qif_el E with E | E
        · obtain ⟨-, E⟩ := qck_el E
          obtain ⟨-, E⟩ := qck_el E
          obtain ⟨h110, q_h110, E⟩ := qbd_el E
          have e_h110 := qfr_J0 q_h110 (List.mem_of_getElem? (i := 0) rfl) e_h
          exact qfr_tr e_h110 (qfr_sub qsub_nil (fr_X12_answer_b147 x1 x3 x4 x5 h110 E))
        · obtain ⟨v114, -, E⟩ := qbd_el E
          obtain ⟨-, E⟩ := qck_el E
          obtain ⟨-, E⟩ := qck_el E
          obtain ⟨c143, h143, E0, E⟩ := qbn_el E
          have e_h143 := qfr_tr e_h (qfr_sub qsub_nil (fr_X12_both v25 (h.2.1 150 (v114 - (1 : Int32)).toNatClampNeg) (h.2.1 150 v114.toNatClampNeg) h E0))
          obtain ⟨-, E⟩ := qck_el E
          obtain ⟨h146, q_h146, E⟩ := qbd_el E
          have e_h146 := qfr_J0 q_h146 (List.mem_of_getElem? (i := 0) rfl) e_h143
          exact qfr_tr e_h146 (qfr_sub qsub_nil (fr_X12_answer_b147 x1 x3 v114 x5 h146 E))
theorem fr_X12_answer_b6_loop (x1 : Int32) (x3 : Int32) (x4 : Int32) (x5 : Int32) (h : qa_M) {z : (Int64 × qa_M)} (E : f_X12_answer_b6_loop x1 x3 x4 x5 h = some z) : qfr wf_X12_answer_b6 h ((fun z : Int64 × qa_M => z.2) z) :=
  qlp_ind (fun sz : Int32 × Int32 × Int32 × Int32 × qa_M => qfr wf_X12_answer_b6 (sz.2.2.2.2) ((fun z : Int64 × qa_M => z.2) z)) (fun sz E => fr_X12_answer_b6 sz.1 sz.2.1 sz.2.2.1 sz.2.2.2.1 sz.2.2.2.2 E) (fun sz sz2 E ih => qfr_tr (fr_X12_answer_b6 sz.1 sz.2.1 sz.2.2.1 sz.2.2.2.1 sz.2.2.2.2 E) ih) (x1, x3, x4, x5, h) E
def w_X12_answer : List (Nat × Nat) := [(150, 0)]
theorem fr_X12_answer (x1 : Int32) (x2 : Int32) (x3 : Int32) (h : qa_M) {z : (Int64 × qa_M)} (E : m_X12_answer x1 x2 x3 h = some z) : qfr w_X12_answer h ((fun z : Int64 × qa_M => z.2) z) := by
  unfold m_X12_answer at E
  have e_h : qfr w_X12_answer h h := qfr_rf
  obtain ⟨v1, -, E⟩ := qbd_el E
  obtain ⟨v4, -, E⟩ := qbd_el E
  exact qfr_tr e_h (qfr_sub (qsub_c (List.mem_of_getElem? (i := 0) rfl) qsub_nil) (fr_X12_answer_b6_loop x1 x3 v1 v4 h E))
theorem fr_X12_barred_b107 (x2 : Int32) (x4 : Int32) (s0 : Int32) (s1 : Int32) (h : qa_M) {z : ((Int32 × Int32 × Int32 × qa_M) ⊕ (Int32 × qa_M))} (E : f_X12_barred_b107 x2 x4 s0 s1 h = some z) : qfr wz h ((Sum.elim (fun z : Int32 × Int32 × Int32 × qa_M => z.2.2.2) (fun z : Int32 × qa_M => z.2)) z) := by
  unfold f_X12_barred_b107 at E
  have e_h : qfr wz h h := qfr_rf
  obtain ⟨v108, -, E⟩ := qbd_el E
  obtain ⟨v109, -, E⟩ := qbd_el E
  exact qsome_f (Q := fun z => qfr wz h ((Sum.elim (fun z : Int32 × Int32 × Int32 × qa_M => z.2.2.2) (fun z : Int32 × qa_M => z.2)) z)) E e_h
theorem fr_X12_barred_b106 (x2 : Int32) (x4 : Int32) (s0 : Int32) (h : qa_M) {z : ((Int32 × Int32 × Int32 × qa_M) ⊕ (Int32 × qa_M))} (E : f_X12_barred_b106 x2 x4 s0 h = some z) : qfr wz h ((Sum.elim (fun z : Int32 × Int32 × Int32 × qa_M => z.2.2.2) (fun z : Int32 × qa_M => z.2)) z) := by
  unfold f_X12_barred_b106 at E
  have e_h : qfr wz h h := qfr_rf
  exact qfr_tr e_h (qfr_sub qsub_nil (fr_X12_barred_b107 x2 x4 s0 (0 : Int32) h E))
def wf_X12_barred_b28 : List (Nat × Nat) := [(150, 0)]
theorem fr_X12_barred_b28 (x2 : Int32) (x3 : Int32) (x4 : Int32) (h : qa_M) {z : ((Int32 × Int32 × Int32 × qa_M) ⊕ (Int32 × qa_M))} (E : f_X12_barred_b28 x2 x3 x4 h = some z) : qfr wf_X12_barred_b28 h ((Sum.elim (fun z : Int32 × Int32 × Int32 × qa_M => z.2.2.2) (fun z : Int32 × qa_M => z.2)) z) := by
  unfold f_X12_barred_b28 at E
  have e_h : qfr wf_X12_barred_b28 h h := qfr_rf
  obtain ⟨-, E⟩ := qck_el E
  rcases qif_el E with E | E
  · refine qup_f (Q := fun z => qfr wf_X12_barred_b28 h ((Sum.elim (fun z : Int32 × Int32 × Int32 × qa_M => z.2.2.2) (fun z : Int32 × qa_M => z.2)) z)) E (fun rz E => ?_)
    exact qsome_f (Q := fun z => qfr wf_X12_barred_b28 h ((fun z : Int32 × qa_M => z.2) z)) E e_h
  · obtain ⟨-, E⟩ := qck_el E
    rcases qif_el E with E | E
    · obtain ⟨-, E⟩ := qck_el E
      obtain ⟨c64, h64, E0, E⟩ := qbn_el E
      have e_h64 := qfr_tr e_h (qfr_sub qsub_nil (fr_X12_isSort (h.1 143 x4.toNatClampNeg) h E0))
      rcases qif_el E with E | E
      · exact qfr_tr e_h64 (qfr_sub qsub_nil (fr_X12_barred_b106 x2 x4 x3 h64 E))
      · obtain ⟨-, E⟩ := qck_el E
        obtain ⟨-, E⟩ := qck_el E
        obtain ⟨c86, h86, E0, E⟩ := qbn_el E
        have e_h86 := qfr_tr e_h64 (qfr_sub (qsub_c (List.mem_of_getElem? (i := 0) rfl) qsub_nil) (fr_X12_answer x2 (h64.1 146 x4.toNatClampNeg) (h64.1 147 x4.toNatClampNeg) h64 E0))
        rcases qif_el E with E | E
        · obtain ⟨-, E⟩ := qck_el E
          exact qfr_tr e_h86 (qfr_sub qsub_nil (fr_X12_barred_b107 x2 x4 x3 ((1 : Int32) <<< ((h86.1 143 x4.toNatClampNeg) &&& 31)) h86 E))
        · exact qfr_tr e_h86 (qfr_sub qsub_nil (fr_X12_barred_b106 x2 x4 x3 h86 E))
    · exact qfr_tr e_h (qfr_sub qsub_nil (fr_X12_barred_b106 x2 x4 x3 h E))
theorem fr_X12_barred_b28_loop (x2 : Int32) (x3 : Int32) (x4 : Int32) (h : qa_M) {z : (Int32 × qa_M)} (E : f_X12_barred_b28_loop x2 x3 x4 h = some z) : qfr wf_X12_barred_b28 h ((fun z : Int32 × qa_M => z.2) z) :=
  qlp_ind (fun sz : Int32 × Int32 × Int32 × qa_M => qfr wf_X12_barred_b28 (sz.2.2.2) ((fun z : Int32 × qa_M => z.2) z)) (fun sz E => fr_X12_barred_b28 sz.1 sz.2.1 sz.2.2.1 sz.2.2.2 E) (fun sz sz2 E ih => qfr_tr (fr_X12_barred_b28 sz.1 sz.2.1 sz.2.2.1 sz.2.2.2 E) ih) (x2, x3, x4, h) E
def w_X12_barred : List (Nat × Nat) := [(149, 0), (150, 0)]
theorem fr_X12_barred (x1 : Int32) (h : qa_M) {z : (Int32 × qa_M)} (E : m_X12_barred x1 h = some z) : qfr w_X12_barred h ((fun z : Int32 × qa_M => z.2) z) := by
  unfold m_X12_barred at E
  have e_h : qfr w_X12_barred h h := qfr_rf
  obtain ⟨-, E⟩ := qck_el E
  obtain ⟨v9, -, E⟩ := qbd_el E
  obtain ⟨v11, -, E⟩ := qbd_el E
  rcases qif_el E with E | E
  · exact qsome_f (Q := fun z => qfr w_X12_barred h ((fun z : Int32 × qa_M => z.2) z)) E e_h
  · obtain ⟨h19, E0, E⟩ := qbv_el E
    have e_h19 := qfr_tr e_h (qfr_sub (qsub_c (List.mem_of_getElem? (i := 0) rfl) qsub_nil) (fr_X12_asks x1 h E0))
    obtain ⟨v26, -, E⟩ := qbd_el E
    exact qfr_tr e_h19 (qfr_sub (qsub_c (List.mem_of_getElem? (i := 1) rfl) qsub_nil) (fr_X12_barred_b28_loop v9 v11 v26 h19 E))
def w_X12_square : List (Nat × Nat) := [(149, 0), (150, 0)]
theorem fr_X12_square (x1 : Int32) (x2 : Int32) (x3 : Int32) (h : qa_M) {z : (Int32 × qa_M)} (E : m_X12_square x1 x2 x3 h = some z) : qfr w_X12_square h ((fun z : Int32 × qa_M => z.2) z) := by
  unfold m_X12_square at E
  have e_h : qfr w_X12_square h h := qfr_rf
  obtain ⟨c3, h3, E0, E⟩ := qbn_el E
  have e_h3 := qfr_tr e_h (qfr_sub qsub_nil (fr_X12_isSquare x1 x2 h E0))
  rcases qif_el E with E | E
  · exact qsome_f (Q := fun z => qfr w_X12_square h ((fun z : Int32 × qa_M => z.2) z)) E e_h3
  · obtain ⟨c15, h15, E0, E⟩ := qbn_el E
    have e_h15 := qfr_tr e_h3 (qfr_sub qsub_nil (fr_X12_in x3.toInt64 (0 : Int64) (5 : Int64) h3 E0))
    rcases qif_el E with E | E
    · exact qsome_f (Q := fun z => qfr w_X12_square h ((fun z : Int32 × qa_M => z.2) z)) E e_h15
    · obtain ⟨v29, -, E⟩ := qbd_el E
      rcases qif_el E with E | E
      · obtain ⟨c71, h71, E0, E⟩ := qbn_el E
        have e_h71 := qfr_tr e_h15 (qfr_sub qsub_nil (fr_X12_isWood v29 h15 E0))
        rcases qif_el E with E | E
        · exact qsome_f (Q := fun z => qfr w_X12_square h ((fun z : Int32 × qa_M => z.2) z)) E e_h71
        · exact qsome_f (Q := fun z => qfr w_X12_square h ((fun z : Int32 × qa_M => z.2) z)) E e_h71
      · rcases qif_el E with E | E
        · obtain ⟨c86, h86, E0, E⟩ := qbn_el E
          have e_h86 := qfr_tr e_h15 (qfr_sub qsub_nil (fr_X12_hillOn v29 h15 E0))
          exact qsome_f (Q := fun z => qfr w_X12_square h ((fun z : Int32 × qa_M => z.2) z)) E e_h86
        · rcases qif_el E with E | E
          · obtain ⟨c93, h93, E0, E⟩ := qbn_el E
            have e_h93 := qfr_tr e_h15 (qfr_sub qsub_nil (fr_X12_manySee v29 h15 E0))
            exact qsome_f (Q := fun z => qfr w_X12_square h ((fun z : Int32 × qa_M => z.2) z)) E e_h93
          · rcases qif_el E with E | E
            · obtain ⟨c100, h100, E0, E⟩ := qbn_el E
              have e_h100 := qfr_tr e_h15 (qfr_sub qsub_nil (fr_X12_manyRoads v29 h15 E0))
              exact qsome_f (Q := fun z => qfr w_X12_square h ((fun z : Int32 × qa_M => z.2) z)) E e_h100
            · rcases qif_el E with E | E
              · obtain ⟨c107, h107, E0, E⟩ := qbn_el E
                have e_h107 := qfr_tr e_h15 (qfr_sub qsub_nil (fr_X12_woodsBeside v29 h15 E0))
                exact qsome_f (Q := fun z => qfr w_X12_square h ((fun z : Int32 × qa_M => z.2) z)) E e_h107
              · obtain ⟨c114, h114, E0, E⟩ := qbn_el E
                have e_h114 := qfr_tr e_h15 (qfr_sub (qsub_c (List.mem_of_getElem? (i := 0) rfl) (qsub_c (List.mem_of_getElem? (i := 1) rfl) qsub_nil)) (fr_X12_barred v29 h15 E0))
                exact qsome_f (Q := fun z => qfr w_X12_square h ((fun z : Int32 × qa_M => z.2) z)) E e_h114
theorem fr_X12_isHill (x1 : Int32) (h : qa_M) {z : (Int32 × qa_M)} (E : m_X12_isHill x1 h = some z) : qfr wz h ((fun z : Int32 × qa_M => z.2) z) := by
  unfold m_X12_isHill at E
  have e_h : qfr wz h h := qfr_rf
  obtain ⟨-, E⟩ := qck_el E
  obtain ⟨c12, h12, E0, E⟩ := qbn_el E
  have e_h12 := qfr_tr e_h (qfr_sub qsub_nil (fr_X12_in x1.toInt64 (0 : Int64) (((h.1 120 (2 : Int32).toNatClampNeg) - (1 : Int32)).toInt64) h E0))
  obtain ⟨-, E⟩ := qpr_el E
  exact qsome_f (Q := fun z => qfr wz h ((fun z : Int32 × qa_M => z.2) z)) E e_h12
theorem fr_X12_seenFrom_b41 (x1 : Int32) (x2 : Int32) (x5 : Int32) (s0 : Int64) (s1 : Int64) (h : qa_M) {z : ((Int32 × Int32 × Int64 × Int32 × qa_M) ⊕ (Int64 × qa_M))} (E : f_X12_seenFrom_b41 x1 x2 x5 s0 s1 h = some z) : qfr wz h ((Sum.elim (fun z : Int32 × Int32 × Int64 × Int32 × qa_M => z.2.2.2.2) (fun z : Int64 × qa_M => z.2)) z) := by
  unfold f_X12_seenFrom_b41 at E
  have e_h : qfr wz h h := qfr_rf
  obtain ⟨v42, -, E⟩ := qbd_el E
  obtain ⟨v43, -, E⟩ := qbd_el E
  exact qsome_f (Q := fun z => qfr wz h ((Sum.elim (fun z : Int32 × Int32 × Int64 × Int32 × qa_M => z.2.2.2.2) (fun z : Int64 × qa_M => z.2)) z)) E e_h
theorem fr_X12_seenFrom_b40 (x1 : Int32) (x2 : Int32) (x5 : Int32) (s0 : Int64) (h : qa_M) {z : ((Int32 × Int32 × Int64 × Int32 × qa_M) ⊕ (Int64 × qa_M))} (E : f_X12_seenFrom_b40 x1 x2 x5 s0 h = some z) : qfr wz h ((Sum.elim (fun z : Int32 × Int32 × Int64 × Int32 × qa_M => z.2.2.2.2) (fun z : Int64 × qa_M => z.2)) z) := by
  unfold f_X12_seenFrom_b40 at E
  have e_h : qfr wz h h := qfr_rf
  exact qfr_tr e_h (qfr_sub qsub_nil (fr_X12_seenFrom_b41 x1 x2 x5 s0 (0 : Int64) h E))
theorem fr_X12_seenFrom_b5 (x1 : Int32) (x2 : Int32) (x3 : Int64) (x5 : Int32) (h : qa_M) {z : ((Int32 × Int32 × Int64 × Int32 × qa_M) ⊕ (Int64 × qa_M))} (E : f_X12_seenFrom_b5 x1 x2 x3 x5 h = some z) : qfr wz h ((Sum.elim (fun z : Int32 × Int32 × Int64 × Int32 × qa_M => z.2.2.2.2) (fun z : Int64 × qa_M => z.2)) z) := by
  unfold f_X12_seenFrom_b5 at E
  have e_h : qfr wz h h := qfr_rf
  rcases qif_el E with E | E
  · refine qup_f (Q := fun z => qfr wz h ((Sum.elim (fun z : Int32 × Int32 × Int64 × Int32 × qa_M => z.2.2.2.2) (fun z : Int64 × qa_M => z.2)) z)) E (fun rz E => ?_)
    exact qsome_f (Q := fun z => qfr wz h ((fun z : Int64 × qa_M => z.2) z)) E e_h
  · obtain ⟨c16, h16, E0, E⟩ := qbn_el E
    have e_h16 := qfr_tr e_h (qfr_sub qsub_nil (fr_X12_isThere x5 h E0))
    rcases qif_el E with E | E
    · exact qfr_tr e_h16 (qfr_sub qsub_nil (fr_X12_seenFrom_b40 x1 x2 x5 x3 h16 E))
    · obtain ⟨c27, h27, E0, E⟩ := qbn_el E
      have e_h27 := qfr_tr e_h16 (qfr_sub qsub_nil (fr_X12_isSeen x1 x5 x2 h16 E0))
      rcases qif_el E with E | E
      · exact qfr_tr e_h27 (qfr_sub qsub_nil (fr_X12_seenFrom_b40 x1 x2 x5 x3 h27 E))
      · exact qfr_tr e_h27 (qfr_sub qsub_nil (fr_X12_seenFrom_b41 x1 x2 x5 x3 (q_lshl (1 : Int64) x5) h27 E))
theorem fr_X12_seenFrom_b5_loop (x1 : Int32) (x2 : Int32) (x3 : Int64) (x5 : Int32) (h : qa_M) {z : (Int64 × qa_M)} (E : f_X12_seenFrom_b5_loop x1 x2 x3 x5 h = some z) : qfr wz h ((fun z : Int64 × qa_M => z.2) z) :=
  qlp_ind (fun sz : Int32 × Int32 × Int64 × Int32 × qa_M => qfr wz (sz.2.2.2.2) ((fun z : Int64 × qa_M => z.2) z)) (fun sz E => fr_X12_seenFrom_b5 sz.1 sz.2.1 sz.2.2.1 sz.2.2.2.1 sz.2.2.2.2 E) (fun sz sz2 E ih => qfr_tr (fr_X12_seenFrom_b5 sz.1 sz.2.1 sz.2.2.1 sz.2.2.2.1 sz.2.2.2.2 E) ih) (x1, x2, x3, x5, h) E
theorem fr_X12_seenFrom (x1 : Int32) (x2 : Int32) (h : qa_M) {z : (Int64 × qa_M)} (E : m_X12_seenFrom x1 x2 h = some z) : qfr wz h ((fun z : Int64 × qa_M => z.2) z) := by
  unfold m_X12_seenFrom at E
  have e_h : qfr wz h h := qfr_rf
  obtain ⟨v1, -, E⟩ := qbd_el E
  obtain ⟨v3, -, E⟩ := qbd_el E
  exact qfr_tr e_h (qfr_sub qsub_nil (fr_X12_seenFrom_b5_loop x1 x2 v1 v3 h E))
theorem fr_X12_sees (x1 : Int32) (h : qa_M) {z : (Int64 × qa_M)} (E : m_X12_sees x1 h = some z) : qfr wz h ((fun z : Int64 × qa_M => z.2) z) := by
  unfold m_X12_sees at E
  have e_h : qfr wz h h := qfr_rf
  obtain ⟨c2, h2, E0, E⟩ := qbn_el E
  have e_h2 := qfr_tr e_h (qfr_sub qsub_nil (fr_X12_isHill x1 h E0))
  rcases qif_el E with E | E
  · exact qsome_f (Q := fun z => qfr wz h ((fun z : Int64 × qa_M => z.2) z)) E e_h2
  · obtain ⟨-, E⟩ := qck_el E
    obtain ⟨-, E⟩ := qck_el E
    obtain ⟨c21, h21, E0, E⟩ := qbn_el E
    have e_h21 := qfr_tr e_h2 (qfr_sub qsub_nil (fr_X12_seenFrom (h2.1 122 x1.toNatClampNeg) (h2.1 123 x1.toNatClampNeg) h2 E0))
    exact qsome_f (Q := fun z => qfr wz h ((fun z : Int64 × qa_M => z.2) z)) E e_h21
theorem fr_X12_hidden_b47 (x1 : Int64) (x3 : Int32) (h : qa_M) {z : ((Int64 × Int32 × qa_M) ⊕ (Int64 × qa_M))} (E : f_X12_hidden_b47 x1 x3 h = some z) : qfr wz h ((Sum.elim (fun z : Int64 × Int32 × qa_M => z.2.2) (fun z : Int64 × qa_M => z.2)) z) := by
  unfold f_X12_hidden_b47 at E
  have e_h : qfr wz h h := qfr_rf
  obtain ⟨-, E⟩ := qck_el E
  rcases qif_el E with E | E
  · refine qup_f (Q := fun z => qfr wz h ((Sum.elim (fun z : Int64 × Int32 × qa_M => z.2.2) (fun z : Int64 × qa_M => z.2)) z)) E (fun rz E => ?_)
    exact qsome_f (Q := fun z => qfr wz h ((fun z : Int64 × qa_M => z.2) z)) E e_h
  · obtain ⟨-, E⟩ := qck_el E
    obtain ⟨-, E⟩ := qck_el E
    obtain ⟨c71, h71, E0, E⟩ := qbn_el E
    have e_h71 := qfr_tr e_h (qfr_sub qsub_nil (fr_X12_seenFrom (h.1 122 x3.toNatClampNeg) (h.1 123 x3.toNatClampNeg) h E0))
    obtain ⟨v79, -, E⟩ := qbd_el E
    obtain ⟨v80, -, E⟩ := qbd_el E
    exact qsome_f (Q := fun z => qfr wz h ((Sum.elim (fun z : Int64 × Int32 × qa_M => z.2.2) (fun z : Int64 × qa_M => z.2)) z)) E e_h71
theorem fr_X12_hidden_b47_loop (x1 : Int64) (x3 : Int32) (h : qa_M) {z : (Int64 × qa_M)} (E : f_X12_hidden_b47_loop x1 x3 h = some z) : qfr wz h ((fun z : Int64 × qa_M => z.2) z) :=
  qlp_ind (fun sz : Int64 × Int32 × qa_M => qfr wz (sz.2.2) ((fun z : Int64 × qa_M => z.2) z)) (fun sz E => fr_X12_hidden_b47 sz.1 sz.2.1 sz.2.2 E) (fun sz sz2 E ih => qfr_tr (fr_X12_hidden_b47 sz.1 sz.2.1 sz.2.2 E) ih) (x1, x3, h) E
theorem fr_X12_hidden_b45 (x1 : Int64) (h : qa_M) {z : (Int64 × qa_M)} (E : f_X12_hidden_b45 x1 h = some z) : qfr wz h ((fun z : Int64 × qa_M => z.2) z) := by
  unfold f_X12_hidden_b45 at E
  have e_h : qfr wz h h := qfr_rf
  obtain ⟨v46, -, E⟩ := qbd_el E
  exact qfr_tr e_h (qfr_sub qsub_nil (fr_X12_hidden_b47_loop x1 v46 h E))
theorem fr_X12_hidden_b37 (x3 : Int32) (s0 : Int64) (s1 : Int64) (h : qa_M) {z : ((Int64 × Int32 × qa_M) ⊕ (Int64 × qa_M))} (E : f_X12_hidden_b37 x3 s0 s1 h = some z) : qfr wz h ((Sum.elim (fun z : Int64 × Int32 × qa_M => z.2.2) (fun z : Int64 × qa_M => z.2)) z) := by
  unfold f_X12_hidden_b37 at E
  have e_h : qfr wz h h := qfr_rf
  obtain ⟨v38, -, E⟩ := qbd_el E
  obtain ⟨v39, -, E⟩ := qbd_el E
  exact qsome_f (Q := fun z => qfr wz h ((Sum.elim (fun z : Int64 × Int32 × qa_M => z.2.2) (fun z : Int64 × qa_M => z.2)) z)) E e_h
theorem fr_X12_hidden_b15 (x1 : Int64) (x3 : Int32) (h : qa_M) {z : ((Int64 × Int32 × qa_M) ⊕ (Int64 × qa_M))} (E : f_X12_hidden_b15 x1 x3 h = some z) : qfr wz h ((Sum.elim (fun z : Int64 × Int32 × qa_M => z.2.2) (fun z : Int64 × qa_M => z.2)) z) := by
  unfold f_X12_hidden_b15 at E
  have e_h : qfr wz h h := qfr_rf
  rcases qif_el E with E | E
  · refine qup_f (Q := fun z => qfr wz h ((Sum.elim (fun z : Int64 × Int32 × qa_M => z.2.2) (fun z : Int64 × qa_M => z.2)) z)) E (fun rz E => ?_)
    exact qfr_tr e_h (qfr_sub qsub_nil (fr_X12_hidden_b45 x1 h E))
  · obtain ⟨c24, h24, E0, E⟩ := qbn_el E
    have e_h24 := qfr_tr e_h (qfr_sub qsub_nil (fr_X12_isThere x3 h E0))
    rcases qif_el E with E | E
    · exact qfr_tr e_h24 (qfr_sub qsub_nil (fr_X12_hidden_b37 x3 x1 (0 : Int64) h24 E))
    · exact qfr_tr e_h24 (qfr_sub qsub_nil (fr_X12_hidden_b37 x3 x1 (q_lshl (1 : Int64) x3) h24 E))
theorem fr_X12_hidden_b15_loop (x1 : Int64) (x3 : Int32) (h : qa_M) {z : (Int64 × qa_M)} (E : f_X12_hidden_b15_loop x1 x3 h = some z) : qfr wz h ((fun z : Int64 × qa_M => z.2) z) :=
  qlp_ind (fun sz : Int64 × Int32 × qa_M => qfr wz (sz.2.2) ((fun z : Int64 × qa_M => z.2) z)) (fun sz E => fr_X12_hidden_b15 sz.1 sz.2.1 sz.2.2 E) (fun sz sz2 E ih => qfr_tr (fr_X12_hidden_b15 sz.1 sz.2.1 sz.2.2 E) ih) (x1, x3, h) E
theorem fr_X12_hidden (h : qa_M) {z : (Int64 × qa_M)} (E : m_X12_hidden h = some z) : qfr wz h ((fun z : Int64 × qa_M => z.2) z) := by
  unfold m_X12_hidden at E
  have e_h : qfr wz h h := qfr_rf
  obtain ⟨c1, h1, E0, E⟩ := qbn_el E
  have e_h1 := qfr_tr e_h (qfr_sub qsub_nil (fr_X12_isLand h E0))
  rcases qif_el E with E | E
  · exact qsome_f (Q := fun z => qfr wz h ((fun z : Int64 × qa_M => z.2) z)) E e_h1
  · obtain ⟨v12, -, E⟩ := qbd_el E
    obtain ⟨v14, -, E⟩ := qbd_el E
    exact qfr_tr e_h1 (qfr_sub qsub_nil (fr_X12_hidden_b15_loop v12 v14 h1 E))
theorem fr_X12_notes (x1 : Int32) (x2 : Int32) (h : qa_M) {z : (Int32 × qa_M)} (E : m_X12_notes x1 x2 h = some z) : qfr wz h ((fun z : Int32 × qa_M => z.2) z) := by
  unfold m_X12_notes at E
  have e_h : qfr wz h h := qfr_rf
  obtain ⟨-, E⟩ := qck_el E
  obtain ⟨c12, h12, E0, E⟩ := qbn_el E
  have e_h12 := qfr_tr e_h (qfr_sub qsub_nil (fr_X12_in x1.toInt64 (0 : Int64) (((h.1 120 (5 : Int32).toNatClampNeg) - (1 : Int32)).toInt64) h E0))
  rcases qif_el E with E | E
  · exact qsome_f (Q := fun z => qfr wz h ((fun z : Int32 × qa_M => z.2) z)) E e_h12
  · rcases qif_el E with E | E
    · obtain ⟨-, E⟩ := qck_el E
      exact qsome_f (Q := fun z => qfr wz h ((fun z : Int32 × qa_M => z.2) z)) E e_h12
    · rcases qif_el E with E | E
      · obtain ⟨-, E⟩ := qck_el E
        exact qsome_f (Q := fun z => qfr wz h ((fun z : Int32 × qa_M => z.2) z)) E e_h12
      · rcases qif_el E with E | E
        · obtain ⟨-, E⟩ := qck_el E
          exact qsome_f (Q := fun z => qfr wz h ((fun z : Int32 × qa_M => z.2) z)) E e_h12
        · rcases qif_el E with E | E
          · obtain ⟨-, E⟩ := qck_el E
            exact qsome_f (Q := fun z => qfr wz h ((fun z : Int32 × qa_M => z.2) z)) E e_h12
          · rcases qif_el E with E | E
            · obtain ⟨-, E⟩ := qck_el E
              exact qsome_f (Q := fun z => qfr wz h ((fun z : Int32 × qa_M => z.2) z)) E e_h12
            · exact qsome_f (Q := fun z => qfr wz h ((fun z : Int32 × qa_M => z.2) z)) E e_h12
theorem fr_X12_isSet (x1 : Int32) (h : qa_M) {z : (Int32 × qa_M)} (E : m_X12_isSet x1 h = some z) : qfr wz h ((fun z : Int32 × qa_M => z.2) z) := by
  unfold m_X12_isSet at E
  have e_h : qfr wz h h := qfr_rf
  obtain ⟨c1, h1, E0, E⟩ := qbn_el E
  have e_h1 := qfr_tr e_h (qfr_sub qsub_nil (fr_X12_isLand h E0))
  rcases qif_el E with E | E
  · exact qsome_f (Q := fun z => qfr wz h ((fun z : Int32 × qa_M => z.2) z)) E e_h1
  · obtain ⟨-, E⟩ := qck_el E
    obtain ⟨c21, h21, E0, E⟩ := qbn_el E
    have e_h21 := qfr_tr e_h1 (qfr_sub qsub_nil (fr_X12_in x1.toInt64 (0 : Int64) ((((1 : Int32) <<< ((h1.1 120 (5 : Int32).toNatClampNeg) &&& 31)) - (1 : Int32)).toInt64) h1 E0))
    rcases qif_el E with E | E
    · exact qsome_f (Q := fun z => qfr wz h ((fun z : Int32 × qa_M => z.2) z)) E e_h21
    · exact qsome_f (Q := fun z => qfr wz h ((fun z : Int32 × qa_M => z.2) z)) E e_h21
theorem fr_X12_farOf_b131 (x1 : Int32) (x2 : Int32) (x3 : Int32) (x5 : Int32) (s0 : Int32) (h : qa_M) {z : ((Int32 × Int32 × Int32 × Int32 × Int32 × qa_M) ⊕ (Int32 × qa_M))} (E : f_X12_farOf_b131 x1 x2 x3 x5 s0 h = some z) : qfr wz h ((Sum.elim (fun z : Int32 × Int32 × Int32 × Int32 × Int32 × qa_M => z.2.2.2.2.2) (fun z : Int32 × qa_M => z.2)) z) := by
  unfold f_X12_farOf_b131 at E
  have e_h : qfr wz h h := qfr_rf
  obtain ⟨v131, -, E⟩ := qbd_el E
  obtain ⟨v133, -, E⟩ := qbd_el E
  exact qsome_f (Q := fun z => qfr wz h ((Sum.elim (fun z : Int32 × Int32 × Int32 × Int32 × Int32 × qa_M => z.2.2.2.2.2) (fun z : Int32 × qa_M => z.2)) z)) E e_h
theorem fr_X12_farOf_b129 (x1 : Int32) (x2 : Int32) (x3 : Int32) (x4 : Int32) (x5 : Int32) (h : qa_M) {z : ((Int32 × Int32 × Int32 × Int32 × Int32 × qa_M) ⊕ (Int32 × qa_M))} (E : f_X12_farOf_b129 x1 x2 x3 x4 x5 h = some z) : qfr wz h ((Sum.elim (fun z : Int32 × Int32 × Int32 × Int32 × Int32 × qa_M => z.2.2.2.2.2) (fun z : Int32 × qa_M => z.2)) z) := by
  unfold f_X12_farOf_b129 at E
  have e_h : qfr wz h h := qfr_rf
  exact qfr_tr e_h (qfr_sub qsub_nil (fr_X12_farOf_b131 x1 x2 x3 x5 x4 h E))
theorem fr_X12_farOf_b100 (x1 : Int32) (x2 : Int32) (x3 : Int32) (x4 : Int32) (x5 : Int32) (s0 : Int32) (h : qa_M) {z : ((Int32 × Int32 × Int32 × Int32 × Int32 × qa_M) ⊕ (Int32 × qa_M))} (E : f_X12_farOf_b100 x1 x2 x3 x4 x5 s0 h = some z) : qfr wz h ((Sum.elim (fun z : Int32 × Int32 × Int32 × Int32 × Int32 × qa_M => z.2.2.2.2.2) (fun z : Int32 × qa_M => z.2)) z) := by
  unfold f_X12_farOf_b100 at E
  have e_h : qfr wz h h := qfr_rf
  obtain ⟨v100, -, E⟩ := qbd_el E
  rcases qif_el E with E | E
  · exact qfr_tr e_h (qfr_sub qsub_nil (fr_X12_farOf_b129 x1 x2 x3 x4 x5 h E))
  · obtain ⟨-, E⟩ := qck_el E
    rcases qif_el E with E | E
    · exact qfr_tr e_h (qfr_sub qsub_nil (fr_X12_farOf_b129 x1 x2 x3 x4 x5 h E))
    · obtain ⟨-, E⟩ := qck_el E
      exact qfr_tr e_h (qfr_sub qsub_nil (fr_X12_farOf_b131 x1 x2 x3 x5 (h.1 145 x5.toNatClampNeg) h E))
theorem fr_X12_farOf_b99 (x1 : Int32) (x2 : Int32) (x3 : Int32) (x4 : Int32) (x5 : Int32) (h : qa_M) {z : ((Int32 × Int32 × Int32 × Int32 × Int32 × qa_M) ⊕ (Int32 × qa_M))} (E : f_X12_farOf_b99 x1 x2 x3 x4 x5 h = some z) : qfr wz h ((Sum.elim (fun z : Int32 × Int32 × Int32 × Int32 × Int32 × qa_M => z.2.2.2.2.2) (fun z : Int32 × qa_M => z.2)) z) := by
  unfold f_X12_farOf_b99 at E
  have e_h : qfr wz h h := qfr_rf
  exact qfr_tr e_h (qfr_sub qsub_nil (fr_X12_farOf_b100 x1 x2 x3 x4 x5 (0 : Int32) h E))
theorem fr_X12_farOf_b95 (x1 : Int32) (x2 : Int32) (x3 : Int32) (x4 : Int32) (x5 : Int32) (h : qa_M) {z : ((Int32 × Int32 × Int32 × Int32 × Int32 × qa_M) ⊕ (Int32 × qa_M))} (E : f_X12_farOf_b95 x1 x2 x3 x4 x5 h = some z) : qfr wz h ((Sum.elim (fun z : Int32 × Int32 × Int32 × Int32 × Int32 × qa_M => z.2.2.2.2.2) (fun z : Int32 × qa_M => z.2)) z) := by
  unfold f_X12_farOf_b95 at E
  have e_h : qfr wz h h := qfr_rf
  exact qfr_tr e_h (qfr_sub qsub_nil (fr_X12_farOf_b100 x1 x2 x3 x4 x5 (1 : Int32) h E))
theorem fr_X12_farOf_b73 (x1 : Int32) (x2 : Int32) (x3 : Int32) (x4 : Int32) (x5 : Int32) (h : qa_M) {z : ((Int32 × Int32 × Int32 × Int32 × Int32 × qa_M) ⊕ (Int32 × qa_M))} (E : f_X12_farOf_b73 x1 x2 x3 x4 x5 h = some z) : qfr wz h ((Sum.elim (fun z : Int32 × Int32 × Int32 × Int32 × Int32 × qa_M => z.2.2.2.2.2) (fun z : Int32 × qa_M => z.2)) z) := by
  unfold f_X12_farOf_b73 at E
  have e_h : qfr wz h h := qfr_rf
  obtain ⟨-, E⟩ := qck_el E
  rcases qif_el E with E | E
  · obtain ⟨-, E⟩ := qck_el E
    rcases qif_el E with E | E
    · exact qfr_tr e_h (qfr_sub qsub_nil (fr_X12_farOf_b95 x1 x2 x3 x4 x5 h E))
    · exact qfr_tr e_h (qfr_sub qsub_nil (fr_X12_farOf_b99 x1 x2 x3 x4 x5 h E))
  · exact qfr_tr e_h (qfr_sub qsub_nil (fr_X12_farOf_b99 x1 x2 x3 x4 x5 h E))
theorem fr_X12_farOf_b19 (x1 : Int32) (x2 : Int32) (x3 : Int32) (x4 : Int32) (x5 : Int32) (h : qa_M) {z : ((Int32 × Int32 × Int32 × Int32 × Int32 × qa_M) ⊕ (Int32 × qa_M))} (E : f_X12_farOf_b19 x1 x2 x3 x4 x5 h = some z) : qfr wz h ((Sum.elim (fun z : Int32 × Int32 × Int32 × Int32 × Int32 × qa_M => z.2.2.2.2.2) (fun z : Int32 × qa_M => z.2)) z) := by
  unfold f_X12_farOf_b19 at E
  have e_h : qfr wz h h := qfr_rf
  rcases qif_el E with E | E
  · refine qup_f (Q := fun z => qfr wz h ((Sum.elim (fun z : Int32 × Int32 × Int32 × Int32 × Int32 × qa_M => z.2.2.2.2.2) (fun z : Int32 × qa_M => z.2)) z)) E (fun rz E => ?_)
    exact qsome_f (Q := fun z => qfr wz h ((fun z : Int32 × qa_M => z.2) z)) E e_h
  · obtain ⟨-, E⟩ := qck_el E
    rcases qif_el E with E | E
    · refine qup_f (Q := fun z => qfr wz h ((Sum.elim (fun z : Int32 × Int32 × Int32 × Int32 × Int32 × qa_M => z.2.2.2.2.2) (fun z : Int32 × qa_M => z.2)) z)) E (fun rz E => ?_)
      exact qsome_f (Q := fun z => qfr wz h ((fun z : Int32 × qa_M => z.2) z)) E e_h
    · obtain ⟨-, E⟩ := qck_el E
      rcases qif_el E with E | E
      · exact qfr_tr e_h (qfr_sub qsub_nil (fr_X12_farOf_b99 x1 x2 x3 x4 x5 h E))
      · obtain ⟨-, E⟩ := qck_el E
        rcases qif_el E with E | E
        · obtain ⟨-, E⟩ := qck_el E
          rcases qif_el E with E | E
          · exact qfr_tr e_h (qfr_sub qsub_nil (fr_X12_farOf_b95 x1 x2 x3 x4 x5 h E))
          · exact qfr_tr e_h (qfr_sub qsub_nil (fr_X12_farOf_b73 x1 x2 x3 x4 x5 h E))
        · exact qfr_tr e_h (qfr_sub qsub_nil (fr_X12_farOf_b73 x1 x2 x3 x4 x5 h E))
theorem fr_X12_farOf_b19_loop (x1 : Int32) (x2 : Int32) (x3 : Int32) (x4 : Int32) (x5 : Int32) (h : qa_M) {z : (Int32 × qa_M)} (E : f_X12_farOf_b19_loop x1 x2 x3 x4 x5 h = some z) : qfr wz h ((fun z : Int32 × qa_M => z.2) z) :=
  qlp_ind (fun sz : Int32 × Int32 × Int32 × Int32 × Int32 × qa_M => qfr wz (sz.2.2.2.2.2) ((fun z : Int32 × qa_M => z.2) z)) (fun sz E => fr_X12_farOf_b19 sz.1 sz.2.1 sz.2.2.1 sz.2.2.2.1 sz.2.2.2.2.1 sz.2.2.2.2.2 E) (fun sz sz2 E ih => qfr_tr (fr_X12_farOf_b19 sz.1 sz.2.1 sz.2.2.1 sz.2.2.2.1 sz.2.2.2.2.1 sz.2.2.2.2.2 E) ih) (x1, x2, x3, x4, x5, h) E
theorem fr_X12_farOf (x1 : Int32) (x2 : Int32) (h : qa_M) {z : (Int32 × qa_M)} (E : m_X12_farOf x1 x2 h = some z) : qfr wz h ((fun z : Int32 × qa_M => z.2) z) := by
  unfold m_X12_farOf at E
  have e_h : qfr wz h h := qfr_rf
  obtain ⟨-, E⟩ := qck_el E
  obtain ⟨v9, -, E⟩ := qbd_el E
  obtain ⟨v11, -, E⟩ := qbd_el E
  obtain ⟨v17, -, E⟩ := qbd_el E
  exact qfr_tr e_h (qfr_sub qsub_nil (fr_X12_farOf_b19_loop x1 x2 v9 v11 v17 h E))
def wf_X12_beginsLayings_b289 : List (Nat × Nat) := [(119, 50)]
theorem fr_X12_beginsLayings_b289 (h : qa_M) {z : qa_M} (E : f_X12_beginsLayings_b289 h = some z) : qfr wf_X12_beginsLayings_b289 h ((fun z : qa_M => z) z) := by
  unfold f_X12_beginsLayings_b289 at E
  have e_h : qfr wf_X12_beginsLayings_b289 h h := qfr_rf
  obtain ⟨h291, q_h291, E⟩ := qbd_el E
  have e_h291 := qfr_Ik q_h291 (List.mem_of_getElem? (i := 0) rfl) e_h
  exact qsome_f (Q := fun z => qfr wf_X12_beginsLayings_b289 h ((fun z : qa_M => z) z)) E e_h291
def wf_X12_beginsLayings_b282 : List (Nat × Nat) := [(155, 0)]
theorem fr_X12_beginsLayings_b282 (x1 : Int32) (s1 : Int32) (s2 : Int64) (h : qa_M) {z : ((Int32 × qa_M) ⊕ qa_M)} (E : f_X12_beginsLayings_b282 x1 s1 s2 h = some z) : qfr wf_X12_beginsLayings_b282 h ((Sum.elim (fun z : Int32 × qa_M => z.2) (fun z : qa_M => z)) z) := by
  unfold f_X12_beginsLayings_b282 at E
  have e_h : qfr wf_X12_beginsLayings_b282 h h := qfr_rf
  obtain ⟨-, E⟩ := qck_el E
  obtain ⟨h282, q_h282, E⟩ := qbd_el E
  have e_h282 := qfr_J0 q_h282 (List.mem_of_getElem? (i := 0) rfl) e_h
  obtain ⟨v283, -, E⟩ := qbd_el E
  exact qsome_f (Q := fun z => qfr wf_X12_beginsLayings_b282 h ((Sum.elim (fun z : Int32 × qa_M => z.2) (fun z : qa_M => z)) z)) E e_h282
def wf_X12_beginsLayings_b219 : List (Nat × Nat) := [(119, 50), (155, 0)]
theorem fr_X12_beginsLayings_b219 (x1 : Int32) (h : qa_M) {z : ((Int32 × qa_M) ⊕ qa_M)} (E : f_X12_beginsLayings_b219 x1 h = some z) : qfr wf_X12_beginsLayings_b219 h ((Sum.elim (fun z : Int32 × qa_M => z.2) (fun z : qa_M => z)) z) := by
  unfold f_X12_beginsLayings_b219 at E
  have e_h : qfr wf_X12_beginsLayings_b219 h h := qfr_rf
  obtain ⟨-, E⟩ := qck_el E
  rcases qif_el E with E | E
  · refine qup_f (Q := fun z => qfr wf_X12_beginsLayings_b219 h ((Sum.elim (fun z : Int32 × qa_M => z.2) (fun z : qa_M => z)) z)) E (fun rz E => ?_)
    exact qfr_tr e_h (qfr_sub (qsub_c (List.mem_of_getElem? (i := 0) rfl) qsub_nil) (fr_X12_beginsLayings_b289 h E))
  · obtain ⟨-, E⟩ := qck_el E
    rcases qif_el E with E | E
    · obtain ⟨-, E⟩ := qck_el E
      obtain ⟨-, E⟩ := qck_el E
      obtain ⟨-, E⟩ := qck_el E
      obtain ⟨-, E⟩ := qck_el E
      obtain ⟨c266, h266, E0, E⟩ := qbn_el E
      have e_h266 := qfr_tr e_h (qfr_sub qsub_nil (fr_X12_seenFrom (h.1 122 (h.1 129 x1.toNatClampNeg).toNatClampNeg) (h.1 123 (h.1 129 x1.toNatClampNeg).toNatClampNeg) h E0))
      exact qfr_tr e_h266 (qfr_sub (qsub_c (List.mem_of_getElem? (i := 1) rfl) qsub_nil) (fr_X12_beginsLayings_b282 x1 x1 c266 h266 E))
    · obtain ⟨-, E⟩ := qck_el E
      obtain ⟨c279, h279, E0, E⟩ := qbn_el E
      have e_h279 := qfr_tr e_h (qfr_sub qsub_nil (fr_X12_roadSet (h.1 129 x1.toNatClampNeg) h E0))
      exact qfr_tr e_h279 (qfr_sub (qsub_c (List.mem_of_getElem? (i := 1) rfl) qsub_nil) (fr_X12_beginsLayings_b282 x1 x1 c279 h279 E))
theorem fr_X12_beginsLayings_b219_loop (x1 : Int32) (h : qa_M) {z : qa_M} (E : f_X12_beginsLayings_b219_loop x1 h = some z) : qfr wf_X12_beginsLayings_b219 h ((fun z : qa_M => z) z) :=
  qlp_ind (fun sz : Int32 × qa_M => qfr wf_X12_beginsLayings_b219 (sz.2) ((fun z : qa_M => z) z)) (fun sz E => fr_X12_beginsLayings_b219 sz.1 sz.2 E) (fun sz sz2 E ih => qfr_tr (fr_X12_beginsLayings_b219 sz.1 sz.2 E) ih) (x1, h) E
def wf_X12_beginsLayings_b217 : List (Nat × Nat) := [(119, 50), (155, 0)]
theorem fr_X12_beginsLayings_b217 (h : qa_M) {z : qa_M} (E : f_X12_beginsLayings_b217 h = some z) : qfr wf_X12_beginsLayings_b217 h ((fun z : qa_M => z) z) := by
  unfold f_X12_beginsLayings_b217 at E
  have e_h : qfr wf_X12_beginsLayings_b217 h h := qfr_rf
  obtain ⟨v218, -, E⟩ := qbd_el E
  exact qfr_tr e_h (qfr_sub (qsub_c (List.mem_of_getElem? (i := 0) rfl) (qsub_c (List.mem_of_getElem? (i := 1) rfl) qsub_nil)) (fr_X12_beginsLayings_b219_loop v218 h E))
theorem fr_X12_beginsLayings_b211 (x1 : Int32) (h : qa_M) {z : ((Int32 × qa_M) ⊕ qa_M)} (E : f_X12_beginsLayings_b211 x1 h = some z) : qfr wz h ((Sum.elim (fun z : Int32 × qa_M => z.2) (fun z : qa_M => z)) z) := by
  unfold f_X12_beginsLayings_b211 at E
  have e_h : qfr wz h h := qfr_rf
  obtain ⟨v211, -, E⟩ := qbd_el E
  exact qsome_f (Q := fun z => qfr wz h ((Sum.elim (fun z : Int32 × qa_M => z.2) (fun z : qa_M => z)) z)) E e_h
def wf_X12_beginsLayings_b171 : List (Nat × Nat) := [(153, 0)]
theorem fr_X12_beginsLayings_b171 (x1 : Int32) (x2 : Int32) (h : qa_M) {z : ((Int32 × Int32 × qa_M) ⊕ ((Int32 × qa_M) ⊕ qa_M))} (E : f_X12_beginsLayings_b171 x1 x2 h = some z) : qfr wf_X12_beginsLayings_b171 h ((Sum.elim (fun z : Int32 × Int32 × qa_M => z.2.2) (Sum.elim (fun z : Int32 × qa_M => z.2) (fun z : qa_M => z))) z) := by
  unfold f_X12_beginsLayings_b171 at E
  have e_h : qfr wf_X12_beginsLayings_b171 h h := qfr_rf
  rcases qif_el E with E | E
  · refine qup_f (Q := fun z => qfr wf_X12_beginsLayings_b171 h ((Sum.elim (fun z : Int32 × Int32 × qa_M => z.2.2) (Sum.elim (fun z : Int32 × qa_M => z.2) (fun z : qa_M => z))) z)) E (fun rz E => ?_)
    exact qfr_tr e_h (qfr_sub qsub_nil (fr_X12_beginsLayings_b211 x1 h E))
  · obtain ⟨-, E⟩ := qck_el E
    obtain ⟨-, E⟩ := qck_el E
    obtain ⟨c201, h201, E0, E⟩ := qbn_el E
    have e_h201 := qfr_tr e_h (qfr_sub qsub_nil (fr_X12_farOf (h.1 152 x1.toNatClampNeg) (h.1 152 x2.toNatClampNeg) h E0))
    obtain ⟨-, E⟩ := qck_el E
    obtain ⟨h204, q_h204, E⟩ := qbd_el E
    have e_h204 := qfr_I0 q_h204 (List.mem_of_getElem? (i := 0) rfl) e_h201
    obtain ⟨v205, -, E⟩ := qbd_el E
    exact qsome_f (Q := fun z => qfr wf_X12_beginsLayings_b171 h ((Sum.elim (fun z : Int32 × Int32 × qa_M => z.2.2) (Sum.elim (fun z : Int32 × qa_M => z.2) (fun z : qa_M => z))) z)) E e_h204
theorem fr_X12_beginsLayings_b171_loop (x1 : Int32) (x2 : Int32) (h : qa_M) {z : ((Int32 × qa_M) ⊕ qa_M)} (E : f_X12_beginsLayings_b171_loop x1 x2 h = some z) : qfr wf_X12_beginsLayings_b171 h ((Sum.elim (fun z : Int32 × qa_M => z.2) (fun z : qa_M => z)) z) :=
  qlp_ind (fun sz : Int32 × Int32 × qa_M => qfr wf_X12_beginsLayings_b171 (sz.2.2) ((Sum.elim (fun z : Int32 × qa_M => z.2) (fun z : qa_M => z)) z)) (fun sz E => fr_X12_beginsLayings_b171 sz.1 sz.2.1 sz.2.2 E) (fun sz sz2 E ih => qfr_tr (fr_X12_beginsLayings_b171 sz.1 sz.2.1 sz.2.2 E) ih) (x1, x2, h) E
def wf_X12_beginsLayings_b161 : List (Nat × Nat) := [(119, 50), (153, 0), (155, 0)]
theorem fr_X12_beginsLayings_b161 (x1 : Int32) (h : qa_M) {z : ((Int32 × qa_M) ⊕ qa_M)} (E : f_X12_beginsLayings_b161 x1 h = some z) : qfr wf_X12_beginsLayings_b161 h ((Sum.elim (fun z : Int32 × qa_M => z.2) (fun z : qa_M => z)) z) := by
  unfold f_X12_beginsLayings_b161 at E
  have e_h : qfr wf_X12_beginsLayings_b161 h h := qfr_rf
  rcases qif_el E with E | E
  · refine qup_f (Q := fun z => qfr wf_X12_beginsLayings_b161 h ((Sum.elim (fun z : Int32 × qa_M => z.2) (fun z : qa_M => z)) z)) E (fun rz E => ?_)
    exact qfr_tr e_h (qfr_sub (qsub_c (List.mem_of_getElem? (i := 0) rfl) (qsub_c (List.mem_of_getElem? (i := 2) rfl) qsub_nil)) (fr_X12_beginsLayings_b217 h E))
  · obtain ⟨v170, -, E⟩ := qbd_el E
    exact qfr_tr e_h (qfr_sub (qsub_c (List.mem_of_getElem? (i := 1) rfl) qsub_nil) (fr_X12_beginsLayings_b171_loop x1 v170 h E))
theorem fr_X12_beginsLayings_b161_loop (x1 : Int32) (h : qa_M) {z : qa_M} (E : f_X12_beginsLayings_b161_loop x1 h = some z) : qfr wf_X12_beginsLayings_b161 h ((fun z : qa_M => z) z) :=
  qlp_ind (fun sz : Int32 × qa_M => qfr wf_X12_beginsLayings_b161 (sz.2) ((fun z : qa_M => z) z)) (fun sz E => fr_X12_beginsLayings_b161 sz.1 sz.2 E) (fun sz sz2 E ih => qfr_tr (fr_X12_beginsLayings_b161 sz.1 sz.2 E) ih) (x1, h) E
def wf_X12_beginsLayings_b159 : List (Nat × Nat) := [(119, 50), (153, 0), (155, 0)]
theorem fr_X12_beginsLayings_b159 (h : qa_M) {z : qa_M} (E : f_X12_beginsLayings_b159 h = some z) : qfr wf_X12_beginsLayings_b159 h ((fun z : qa_M => z) z) := by
  unfold f_X12_beginsLayings_b159 at E
  have e_h : qfr wf_X12_beginsLayings_b159 h h := qfr_rf
  obtain ⟨v160, -, E⟩ := qbd_el E
  exact qfr_tr e_h (qfr_sub (qsub_c (List.mem_of_getElem? (i := 0) rfl) (qsub_c (List.mem_of_getElem? (i := 1) rfl) (qsub_c (List.mem_of_getElem? (i := 2) rfl) qsub_nil))) (fr_X12_beginsLayings_b161_loop v160 h E))
theorem fr_X12_beginsLayings_b153 (x1 : Int32) (h : qa_M) {z : ((Int32 × qa_M) ⊕ qa_M)} (E : f_X12_beginsLayings_b153 x1 h = some z) : qfr wz h ((Sum.elim (fun z : Int32 × qa_M => z.2) (fun z : qa_M => z)) z) := by
  unfold f_X12_beginsLayings_b153 at E
  have e_h : qfr wz h h := qfr_rf
  obtain ⟨v153, -, E⟩ := qbd_el E
  exact qsome_f (Q := fun z => qfr wz h ((Sum.elim (fun z : Int32 × qa_M => z.2) (fun z : qa_M => z)) z)) E e_h
def wf_X12_beginsLayings_b145 : List (Nat × Nat) := [(154, 0)]
theorem fr_X12_beginsLayings_b145 (x1 : Int32) (x2 : Int32) (x3 : Int32) (s1 : Int32) (s2 : Int64) (s3 : Int64) (h : qa_M) {z : ((Int32 × Int32 × Int32 × qa_M) ⊕ ((Int32 × qa_M) ⊕ qa_M))} (E : f_X12_beginsLayings_b145 x1 x2 x3 s1 s2 s3 h = some z) : qfr wf_X12_beginsLayings_b145 h ((Sum.elim (fun z : Int32 × Int32 × Int32 × qa_M => z.2.2.2) (Sum.elim (fun z : Int32 × qa_M => z.2) (fun z : qa_M => z))) z) := by
  unfold f_X12_beginsLayings_b145 at E
  have e_h : qfr wf_X12_beginsLayings_b145 h h := qfr_rf
  obtain ⟨-, E⟩ := qck_el E
  obtain ⟨h146, q_h146, E⟩ := qbd_el E
  have e_h146 := qfr_J0 q_h146 (List.mem_of_getElem? (i := 0) rfl) e_h
  obtain ⟨v147, -, E⟩ := qbd_el E
  exact qsome_f (Q := fun z => qfr wf_X12_beginsLayings_b145 h ((Sum.elim (fun z : Int32 × Int32 × Int32 × qa_M => z.2.2.2) (Sum.elim (fun z : Int32 × qa_M => z.2) (fun z : qa_M => z))) z)) E e_h146
def wf_X12_beginsLayings_b144 : List (Nat × Nat) := [(154, 0)]
theorem fr_X12_beginsLayings_b144 (x1 : Int32) (x2 : Int32) (x3 : Int32) (s1 : Int32) (s2 : Int64) (h : qa_M) {z : ((Int32 × Int32 × Int32 × qa_M) ⊕ ((Int32 × qa_M) ⊕ qa_M))} (E : f_X12_beginsLayings_b144 x1 x2 x3 s1 s2 h = some z) : qfr wf_X12_beginsLayings_b144 h ((Sum.elim (fun z : Int32 × Int32 × Int32 × qa_M => z.2.2.2) (Sum.elim (fun z : Int32 × qa_M => z.2) (fun z : qa_M => z))) z) := by
  unfold f_X12_beginsLayings_b144 at E
  have e_h : qfr wf_X12_beginsLayings_b144 h h := qfr_rf
  exact qfr_tr e_h (qfr_sub (qsub_c (List.mem_of_getElem? (i := 0) rfl) qsub_nil) (fr_X12_beginsLayings_b145 x1 x2 x3 s1 s2 (0 : Int64) h E))
def wf_X12_beginsLayings_b96 : List (Nat × Nat) := [(154, 0)]
theorem fr_X12_beginsLayings_b96 (x1 : Int32) (x2 : Int32) (x3 : Int32) (h : qa_M) {z : ((Int32 × Int32 × Int32 × qa_M) ⊕ ((Int32 × qa_M) ⊕ qa_M))} (E : f_X12_beginsLayings_b96 x1 x2 x3 h = some z) : qfr wf_X12_beginsLayings_b96 h ((Sum.elim (fun z : Int32 × Int32 × Int32 × qa_M => z.2.2.2) (Sum.elim (fun z : Int32 × qa_M => z.2) (fun z : qa_M => z))) z) := by
  unfold f_X12_beginsLayings_b96 at E
  have e_h : qfr wf_X12_beginsLayings_b96 h h := qfr_rf
  obtain ⟨-, E⟩ := qck_el E
  rcases qif_el E with E | E
  · refine qup_f (Q := fun z => qfr wf_X12_beginsLayings_b96 h ((Sum.elim (fun z : Int32 × Int32 × Int32 × qa_M => z.2.2.2) (Sum.elim (fun z : Int32 × qa_M => z.2) (fun z : qa_M => z))) z)) E (fun rz E => ?_)
    exact qfr_tr e_h (qfr_sub qsub_nil (fr_X12_beginsLayings_b153 x1 h E))
  · obtain ⟨-, E⟩ := qck_el E
    obtain ⟨c115, h115, E0, E⟩ := qbn_el E
    have e_h115 := qfr_tr e_h (qfr_sub qsub_nil (fr_X12_isThere x1 h E0))
    rcases qif_el E with E | E
    · exact qfr_tr e_h115 (qfr_sub (qsub_c (List.mem_of_getElem? (i := 0) rfl) qsub_nil) (fr_X12_beginsLayings_b144 x1 x2 x3 x3 (h.2.1 154 x3.toNatClampNeg) h115 E))
    · obtain ⟨c123, h123, E0, E⟩ := qbn_el E
      have e_h123 := qfr_tr e_h115 (qfr_sub qsub_nil (fr_X12_isWood x1 h115 E0))
      rcases qif_el E with E | E
      · obtain ⟨c132, h132, E0, E⟩ := qbn_el E
        have e_h132 := qfr_tr e_h123 (qfr_sub qsub_nil (fr_X12_has x2.toInt64 x3 h123 E0))
        rcases qif_el E with E | E
        · exact qfr_tr e_h132 (qfr_sub (qsub_c (List.mem_of_getElem? (i := 0) rfl) qsub_nil) (fr_X12_beginsLayings_b145 x1 x2 x3 x3 (h.2.1 154 x3.toNatClampNeg) (q_lshl (1 : Int64) x1) h132 E))
        · exact qfr_tr e_h132 (qfr_sub (qsub_c (List.mem_of_getElem? (i := 0) rfl) qsub_nil) (fr_X12_beginsLayings_b144 x1 x2 x3 x3 (h.2.1 154 x3.toNatClampNeg) h132 E))
      · exact qfr_tr e_h123 (qfr_sub (qsub_c (List.mem_of_getElem? (i := 0) rfl) qsub_nil) (fr_X12_beginsLayings_b144 x1 x2 x3 x3 (h.2.1 154 x3.toNatClampNeg) h123 E))
theorem fr_X12_beginsLayings_b96_loop (x1 : Int32) (x2 : Int32) (x3 : Int32) (h : qa_M) {z : ((Int32 × qa_M) ⊕ qa_M)} (E : f_X12_beginsLayings_b96_loop x1 x2 x3 h = some z) : qfr wf_X12_beginsLayings_b96 h ((Sum.elim (fun z : Int32 × qa_M => z.2) (fun z : qa_M => z)) z) :=
  qlp_ind (fun sz : Int32 × Int32 × Int32 × qa_M => qfr wf_X12_beginsLayings_b96 (sz.2.2.2) ((Sum.elim (fun z : Int32 × qa_M => z.2) (fun z : qa_M => z)) z)) (fun sz E => fr_X12_beginsLayings_b96 sz.1 sz.2.1 sz.2.2.1 sz.2.2.2 E) (fun sz sz2 E ih => qfr_tr (fr_X12_beginsLayings_b96 sz.1 sz.2.1 sz.2.2.1 sz.2.2.2 E) ih) (x1, x2, x3, h) E
def wf_X12_beginsLayings_b93 : List (Nat × Nat) := [(154, 0)]
theorem fr_X12_beginsLayings_b93 (x1 : Int32) (s0 : Int32) (h : qa_M) {z : ((Int32 × qa_M) ⊕ qa_M)} (E : f_X12_beginsLayings_b93 x1 s0 h = some z) : qfr wf_X12_beginsLayings_b93 h ((Sum.elim (fun z : Int32 × qa_M => z.2) (fun z : qa_M => z)) z) := by
  unfold f_X12_beginsLayings_b93 at E
  have e_h : qfr wf_X12_beginsLayings_b93 h h := qfr_rf
  obtain ⟨v93, -, E⟩ := qbd_el E
  obtain ⟨v95, -, E⟩ := qbd_el E
  exact qfr_tr e_h (qfr_sub (qsub_c (List.mem_of_getElem? (i := 0) rfl) qsub_nil) (fr_X12_beginsLayings_b96_loop x1 v93 v95 h E))
def wf_X12_beginsLayings_b70 : List (Nat × Nat) := [(119, 50), (149, 0), (150, 0), (153, 0), (154, 0), (155, 0)]
theorem fr_X12_beginsLayings_b70 (x1 : Int32) (h : qa_M) {z : ((Int32 × qa_M) ⊕ qa_M)} (E : f_X12_beginsLayings_b70 x1 h = some z) : qfr wf_X12_beginsLayings_b70 h ((Sum.elim (fun z : Int32 × qa_M => z.2) (fun z : qa_M => z)) z) := by
  unfold f_X12_beginsLayings_b70 at E
  have e_h : qfr wf_X12_beginsLayings_b70 h h := qfr_rf
  rcases qif_el E with E | E
  · refine qup_f (Q := fun z => qfr wf_X12_beginsLayings_b70 h ((Sum.elim (fun z : Int32 × qa_M => z.2) (fun z : qa_M => z)) z)) E (fun rz E => ?_)
    exact qfr_tr e_h (qfr_sub (qsub_c (List.mem_of_getElem? (i := 0) rfl) (qsub_c (List.mem_of_getElem? (i := 3) rfl) (qsub_c (List.mem_of_getElem? (i := 5) rfl) qsub_nil))) (fr_X12_beginsLayings_b159 h E))
  · obtain ⟨c78, h78, E0, E⟩ := qbn_el E
    have e_h78 := qfr_tr e_h (qfr_sub qsub_nil (fr_X12_isThere x1 h E0))
    rcases qif_el E with E | E
    · exact qfr_tr e_h78 (qfr_sub (qsub_c (List.mem_of_getElem? (i := 4) rfl) qsub_nil) (fr_X12_beginsLayings_b93 x1 (0 : Int32) h78 E))
    · obtain ⟨c86, h86, E0, E⟩ := qbn_el E
      have e_h86 := qfr_tr e_h78 (qfr_sub (qsub_c (List.mem_of_getElem? (i := 1) rfl) (qsub_c (List.mem_of_getElem? (i := 2) rfl) qsub_nil)) (fr_X12_barred x1 h78 E0))
      exact qfr_tr e_h86 (qfr_sub (qsub_c (List.mem_of_getElem? (i := 4) rfl) qsub_nil) (fr_X12_beginsLayings_b93 x1 c86 h86 E))
theorem fr_X12_beginsLayings_b70_loop (x1 : Int32) (h : qa_M) {z : qa_M} (E : f_X12_beginsLayings_b70_loop x1 h = some z) : qfr wf_X12_beginsLayings_b70 h ((fun z : qa_M => z) z) :=
  qlp_ind (fun sz : Int32 × qa_M => qfr wf_X12_beginsLayings_b70 (sz.2) ((fun z : qa_M => z) z)) (fun sz E => fr_X12_beginsLayings_b70 sz.1 sz.2 E) (fun sz sz2 E ih => qfr_tr (fr_X12_beginsLayings_b70 sz.1 sz.2 E) ih) (x1, h) E
def wf_X12_beginsLayings_b68 : List (Nat × Nat) := [(119, 50), (149, 0), (150, 0), (153, 0), (154, 0), (155, 0)]
theorem fr_X12_beginsLayings_b68 (h : qa_M) {z : qa_M} (E : f_X12_beginsLayings_b68 h = some z) : qfr wf_X12_beginsLayings_b68 h ((fun z : qa_M => z) z) := by
  unfold f_X12_beginsLayings_b68 at E
  have e_h : qfr wf_X12_beginsLayings_b68 h h := qfr_rf
  obtain ⟨v69, -, E⟩ := qbd_el E
  exact qfr_tr e_h (qfr_sub (qsub_c (List.mem_of_getElem? (i := 0) rfl) (qsub_c (List.mem_of_getElem? (i := 1) rfl) (qsub_c (List.mem_of_getElem? (i := 2) rfl) (qsub_c (List.mem_of_getElem? (i := 3) rfl) (qsub_c (List.mem_of_getElem? (i := 4) rfl) (qsub_c (List.mem_of_getElem? (i := 5) rfl) qsub_nil)))))) (fr_X12_beginsLayings_b70_loop v69 h E))
theorem fr_X12_beginsLayings_b62 (x1 : Int32) (h : qa_M) {z : ((Int32 × qa_M) ⊕ qa_M)} (E : f_X12_beginsLayings_b62 x1 h = some z) : qfr wz h ((Sum.elim (fun z : Int32 × qa_M => z.2) (fun z : qa_M => z)) z) := by
  unfold f_X12_beginsLayings_b62 at E
  have e_h : qfr wz h h := qfr_rf
  obtain ⟨v62, -, E⟩ := qbd_el E
  exact qsome_f (Q := fun z => qfr wz h ((Sum.elim (fun z : Int32 × qa_M => z.2) (fun z : qa_M => z)) z)) E e_h
def wf_X12_beginsLayings_b26 : List (Nat × Nat) := [(119, 49), (152, 0)]
theorem fr_X12_beginsLayings_b26 (x1 : Int32) (x2 : Int32) (h : qa_M) {z : ((Int32 × Int32 × qa_M) ⊕ ((Int32 × qa_M) ⊕ qa_M))} (E : f_X12_beginsLayings_b26 x1 x2 h = some z) : qfr wf_X12_beginsLayings_b26 h ((Sum.elim (fun z : Int32 × Int32 × qa_M => z.2.2) (Sum.elim (fun z : Int32 × qa_M => z.2) (fun z : qa_M => z))) z) := by
  unfold f_X12_beginsLayings_b26 at E
  have e_h : qfr wf_X12_beginsLayings_b26 h h := qfr_rf
  obtain ⟨-, E⟩ := qck_el E
  rcases qif_el E with E | E
  · refine qup_f (Q := fun z => qfr wf_X12_beginsLayings_b26 h ((Sum.elim (fun z : Int32 × Int32 × qa_M => z.2.2) (Sum.elim (fun z : Int32 × qa_M => z.2) (fun z : qa_M => z))) z)) E (fun rz E => ?_)
    exact qfr_tr e_h (qfr_sub qsub_nil (fr_X12_beginsLayings_b62 x1 h E))
  · obtain ⟨-, E⟩ := qck_el E
    obtain ⟨h45, q_h45, E⟩ := qbd_el E
    have e_h45 := qfr_I0 q_h45 (List.mem_of_getElem? (i := 1) rfl) e_h
    obtain ⟨h53, q_h53, E⟩ := qbd_el E
    have e_h53 := qfr_Ik q_h53 (List.mem_of_getElem? (i := 0) rfl) e_h45
    obtain ⟨v56, -, E⟩ := qbd_el E
    exact qsome_f (Q := fun z => qfr wf_X12_beginsLayings_b26 h ((Sum.elim (fun z : Int32 × Int32 × qa_M => z.2.2) (Sum.elim (fun z : Int32 × qa_M => z.2) (fun z : qa_M => z))) z)) E e_h53
theorem fr_X12_beginsLayings_b26_loop (x1 : Int32) (x2 : Int32) (h : qa_M) {z : ((Int32 × qa_M) ⊕ qa_M)} (E : f_X12_beginsLayings_b26_loop x1 x2 h = some z) : qfr wf_X12_beginsLayings_b26 h ((Sum.elim (fun z : Int32 × qa_M => z.2) (fun z : qa_M => z)) z) :=
  qlp_ind (fun sz : Int32 × Int32 × qa_M => qfr wf_X12_beginsLayings_b26 (sz.2.2) ((Sum.elim (fun z : Int32 × qa_M => z.2) (fun z : qa_M => z)) z)) (fun sz E => fr_X12_beginsLayings_b26 sz.1 sz.2.1 sz.2.2 E) (fun sz sz2 E ih => qfr_tr (fr_X12_beginsLayings_b26 sz.1 sz.2.1 sz.2.2 E) ih) (x1, x2, h) E
def wf_X12_beginsLayings_b7 : List (Nat × Nat) := [(119, 49), (119, 50), (149, 0), (150, 0), (152, 0), (153, 0), (154, 0), (155, 0)]
theorem fr_X12_beginsLayings_b7 (x1 : Int32) (h : qa_M) {z : ((Int32 × qa_M) ⊕ qa_M)} (E : f_X12_beginsLayings_b7 x1 h = some z) : qfr wf_X12_beginsLayings_b7 h ((Sum.elim (fun z : Int32 × qa_M => z.2) (fun z : qa_M => z)) z) := by
  unfold f_X12_beginsLayings_b7 at E
  have e_h : qfr wf_X12_beginsLayings_b7 h h := qfr_rf
  obtain ⟨-, E⟩ := qck_el E
  rcases qif_el E with E | E
  · refine qup_f (Q := fun z => qfr wf_X12_beginsLayings_b7 h ((Sum.elim (fun z : Int32 × qa_M => z.2) (fun z : qa_M => z)) z)) E (fun rz E => ?_)
    exact qfr_tr e_h (qfr_sub (qsub_c (List.mem_of_getElem? (i := 1) rfl) (qsub_c (List.mem_of_getElem? (i := 2) rfl) (qsub_c (List.mem_of_getElem? (i := 3) rfl) (qsub_c (List.mem_of_getElem? (i := 5) rfl) (qsub_c (List.mem_of_getElem? (i := 6) rfl) (qsub_c (List.mem_of_getElem? (i := 7) rfl) qsub_nil)))))) (fr_X12_beginsLayings_b68 h E))
  · obtain ⟨-, E⟩ := qck_el E
    obtain ⟨h23, q_h23, E⟩ := qbd_el E
    have e_h23 := qfr_J0 q_h23 (List.mem_of_getElem? (i := 6) rfl) e_h
    obtain ⟨v25, -, E⟩ := qbd_el E
    exact qfr_tr e_h23 (qfr_sub (qsub_c (List.mem_of_getElem? (i := 0) rfl) (qsub_c (List.mem_of_getElem? (i := 4) rfl) qsub_nil)) (fr_X12_beginsLayings_b26_loop x1 v25 h23 E))
theorem fr_X12_beginsLayings_b7_loop (x1 : Int32) (h : qa_M) {z : qa_M} (E : f_X12_beginsLayings_b7_loop x1 h = some z) : qfr wf_X12_beginsLayings_b7 h ((fun z : qa_M => z) z) :=
  qlp_ind (fun sz : Int32 × qa_M => qfr wf_X12_beginsLayings_b7 (sz.2) ((fun z : qa_M => z) z)) (fun sz E => fr_X12_beginsLayings_b7 sz.1 sz.2 E) (fun sz sz2 E ih => qfr_tr (fr_X12_beginsLayings_b7 sz.1 sz.2 E) ih) (x1, h) E
def w_X12_beginsLayings : List (Nat × Nat) := [(119, 49), (119, 50), (149, 0), (150, 0), (152, 0), (153, 0), (154, 0), (155, 0)]
theorem fr_X12_beginsLayings (h : qa_M) {z : qa_M} (E : m_X12_beginsLayings h = some z) : qfr w_X12_beginsLayings h ((fun z : qa_M => z) z) := by
  unfold m_X12_beginsLayings at E
  have e_h : qfr w_X12_beginsLayings h h := qfr_rf
  obtain ⟨h2, q_h2, E⟩ := qbd_el E
  have e_h2 := qfr_Ik q_h2 (List.mem_of_getElem? (i := 0) rfl) e_h
  obtain ⟨v6, -, E⟩ := qbd_el E
  exact qfr_tr e_h2 (qfr_sub (qsub_c (List.mem_of_getElem? (i := 0) rfl) (qsub_c (List.mem_of_getElem? (i := 1) rfl) (qsub_c (List.mem_of_getElem? (i := 2) rfl) (qsub_c (List.mem_of_getElem? (i := 3) rfl) (qsub_c (List.mem_of_getElem? (i := 4) rfl) (qsub_c (List.mem_of_getElem? (i := 5) rfl) (qsub_c (List.mem_of_getElem? (i := 6) rfl) (qsub_c (List.mem_of_getElem? (i := 7) rfl) qsub_nil)))))))) (fr_X12_beginsLayings_b7_loop v6 h2 E))
theorem fr_X12_mayStand_b59 (x1 : Int32) (x2 : Int32) (x4 : Int32) (s0 : Int32) (h : qa_M) {z : ((Int32 × Int32 × Int32 × Int32 × qa_M) ⊕ (Int32 × qa_M))} (E : f_X12_mayStand_b59 x1 x2 x4 s0 h = some z) : qfr wz h ((Sum.elim (fun z : Int32 × Int32 × Int32 × Int32 × qa_M => z.2.2.2.2) (fun z : Int32 × qa_M => z.2)) z) := by
  unfold f_X12_mayStand_b59 at E
  have e_h : qfr wz h h := qfr_rf
  obtain ⟨v59, -, E⟩ := qbd_el E
  obtain ⟨v60, -, E⟩ := qbd_el E
  exact qsome_f (Q := fun z => qfr wz h ((Sum.elim (fun z : Int32 × Int32 × Int32 × Int32 × qa_M => z.2.2.2.2) (fun z : Int32 × qa_M => z.2)) z)) E e_h
theorem fr_X12_mayStand_b19 (x1 : Int32) (x2 : Int32) (x3 : Int32) (x4 : Int32) (h : qa_M) {z : ((Int32 × Int32 × Int32 × Int32 × qa_M) ⊕ (Int32 × qa_M))} (E : f_X12_mayStand_b19 x1 x2 x3 x4 h = some z) : qfr wz h ((Sum.elim (fun z : Int32 × Int32 × Int32 × Int32 × qa_M => z.2.2.2.2) (fun z : Int32 × qa_M => z.2)) z) := by
  unfold f_X12_mayStand_b19 at E
  have e_h : qfr wz h h := qfr_rf
  rcases qif_el E with E | E
  · obtain ⟨-, E⟩ := qpr_el E
    refine qup_f (Q := fun z => qfr wz h ((Sum.elim (fun z : Int32 × Int32 × Int32 × Int32 × qa_M => z.2.2.2.2) (fun z : Int32 × qa_M => z.2)) z)) E (fun rz E => ?_)
    exact qsome_f (Q := fun z => qfr wz h ((fun z : Int32 × qa_M => z.2) z)) E e_h
  · rcases qif_el E with E | E
    · obtain ⟨-, E⟩ := qpr_el E
      refine qup_f (Q := fun z => qfr wz h ((Sum.elim (fun z : Int32 × Int32 × Int32 × Int32 × qa_M => z.2.2.2.2) (fun z : Int32 × qa_M => z.2)) z)) E (fun rz E => ?_)
      exact qsome_f (Q := fun z => qfr wz h ((fun z : Int32 × qa_M => z.2) z)) E e_h
    · obtain ⟨-, E⟩ := qck_el E
      obtain ⟨c37, h37, E0, E⟩ := qbn_el E
      have e_h37 := qfr_tr e_h (qfr_sub qsub_nil (fr_X12_apartOf (h.1 151 x4.toNatClampNeg) x2 h E0))
      obtain ⟨-, E⟩ := qck_el E
      rcases qif_el E with E | E
      · exact qfr_tr e_h37 (qfr_sub qsub_nil (fr_X12_mayStand_b59 x1 x2 x4 (0 : Int32) h37 E))
      · exact qfr_tr e_h37 (qfr_sub qsub_nil (fr_X12_mayStand_b59 x1 x2 x4 (1 : Int32) h37 E))
theorem fr_X12_mayStand_b19_loop (x1 : Int32) (x2 : Int32) (x3 : Int32) (x4 : Int32) (h : qa_M) {z : (Int32 × qa_M)} (E : f_X12_mayStand_b19_loop x1 x2 x3 x4 h = some z) : qfr wz h ((fun z : Int32 × qa_M => z.2) z) :=
  qlp_ind (fun sz : Int32 × Int32 × Int32 × Int32 × qa_M => qfr wz (sz.2.2.2.2) ((fun z : Int32 × qa_M => z.2) z)) (fun sz E => fr_X12_mayStand_b19 sz.1 sz.2.1 sz.2.2.1 sz.2.2.2.1 sz.2.2.2.2 E) (fun sz sz2 E ih => qfr_tr (fr_X12_mayStand_b19 sz.1 sz.2.1 sz.2.2.1 sz.2.2.2.1 sz.2.2.2.2 E) ih) (x1, x2, x3, x4, h) E
theorem fr_X12_mayStand (x1 : Int32) (x2 : Int32) (h : qa_M) {z : (Int32 × qa_M)} (E : m_X12_mayStand x1 x2 h = some z) : qfr wz h ((fun z : Int32 × qa_M => z.2) z) := by
  unfold m_X12_mayStand at E
  have e_h : qfr wz h h := qfr_rf
  obtain ⟨-, E⟩ := qck_el E
  obtain ⟨-, E⟩ := qck_el E
  obtain ⟨c12, h12, E0, E⟩ := qbn_el E
  have e_h12 := qfr_tr e_h (qfr_sub qsub_nil (fr_X12_has (h.2.1 154 (h.1 152 x1.toNatClampNeg).toNatClampNeg) x2 h E0))
  obtain ⟨v15, -, E⟩ := qbd_el E
  obtain ⟨v17, -, E⟩ := qbd_el E
  exact qfr_tr e_h12 (qfr_sub qsub_nil (fr_X12_mayStand_b19_loop x1 x2 v15 v17 h12 E))
theorem fr_X12_laysOn_b167 (x1 : Int32) (h : qa_M) {z : ((Int32 × qa_M) ⊕ (Int32 × qa_M))} (E : f_X12_laysOn_b167 x1 h = some z) : qfr wz h ((Sum.elim (fun z : Int32 × qa_M => z.2) (fun z : Int32 × qa_M => z.2)) z) := by
  unfold f_X12_laysOn_b167 at E
  have e_h : qfr wz h h := qfr_rf
  exact qsome_f (Q := fun z => qfr wz h ((Sum.elim (fun z : Int32 × qa_M => z.2) (fun z : Int32 × qa_M => z.2)) z)) E e_h
def wf_X12_laysOn_b166 : List (Nat × Nat) := [(151, 0)]
theorem fr_X12_laysOn_b166 (x1 : Int32) (s1 : Int32) (s2 : Int32) (h : qa_M) {z : ((Int32 × qa_M) ⊕ (Int32 × qa_M))} (E : f_X12_laysOn_b166 x1 s1 s2 h = some z) : qfr wf_X12_laysOn_b166 h ((Sum.elim (fun z : Int32 × qa_M => z.2) (fun z : Int32 × qa_M => z.2)) z) := by
  unfold f_X12_laysOn_b166 at E
  have e_h : qfr wf_X12_laysOn_b166 h h := qfr_rf
  obtain ⟨-, E⟩ := qck_el E
  obtain ⟨h166, q_h166, E⟩ := qbd_el E
  have e_h166 := qfr_I0 q_h166 (List.mem_of_getElem? (i := 0) rfl) e_h
  exact qfr_tr e_h166 (qfr_sub qsub_nil (fr_X12_laysOn_b167 x1 h166 E))
def wf_X12_laysOn_b98 : List (Nat × Nat) := [(151, 0)]
theorem fr_X12_laysOn_b98 (x1 : Int32) (x2 : Int32) (h : qa_M) {z : ((Int32 × qa_M) ⊕ (Int32 × qa_M))} (E : f_X12_laysOn_b98 x1 x2 h = some z) : qfr wf_X12_laysOn_b98 h ((Sum.elim (fun z : Int32 × qa_M => z.2) (fun z : Int32 × qa_M => z.2)) z) := by
  unfold f_X12_laysOn_b98 at E
  have e_h : qfr wf_X12_laysOn_b98 h h := qfr_rf
  obtain ⟨-, E⟩ := qck_el E
  obtain ⟨h104, q_h104, E⟩ := qbd_el E
  have e_h104 := qfr_I0 q_h104 (List.mem_of_getElem? (i := 0) rfl) e_h
  rcases qif_el E with E | E
  · obtain ⟨v111, -, E⟩ := qbd_el E
    exact qfr_tr e_h104 (qfr_sub qsub_nil (fr_X12_laysOn_b167 v111 h104 E))
  · rcases qif_el E with E | E
    · refine qup_f (Q := fun z => qfr wf_X12_laysOn_b98 h ((Sum.elim (fun z : Int32 × qa_M => z.2) (fun z : Int32 × qa_M => z.2)) z)) E (fun rz E => ?_)
      exact qsome_f (Q := fun z => qfr wf_X12_laysOn_b98 h ((fun z : Int32 × qa_M => z.2) z)) E e_h104
    · obtain ⟨v129, -, E⟩ := qbd_el E
      obtain ⟨-, E⟩ := qck_el E
      obtain ⟨-, E⟩ := qck_el E
      rcases qif_el E with E | E
      · obtain ⟨-, E⟩ := qck_el E
        exact qfr_tr e_h104 (qfr_sub (qsub_c (List.mem_of_getElem? (i := 0) rfl) qsub_nil) (fr_X12_laysOn_b166 v129 v129 (h104.1 151 (v129 - (1 : Int32)).toNatClampNeg) h104 E))
      · exact qfr_tr e_h104 (qfr_sub (qsub_c (List.mem_of_getElem? (i := 0) rfl) qsub_nil) (fr_X12_laysOn_b166 v129 v129 (-1 : Int32) h104 E))
def wf_X12_laysOn_b77 : List (Nat × Nat) := [(151, 0)]
theorem fr_X12_laysOn_b77 (x1 : Int32) (x2 : Int32) (h : qa_M) {z : ((Int32 × Int32 × qa_M) ⊕ ((Int32 × qa_M) ⊕ (Int32 × qa_M)))} (E : f_X12_laysOn_b77 x1 x2 h = some z) : qfr wf_X12_laysOn_b77 h ((Sum.elim (fun z : Int32 × Int32 × qa_M => z.2.2) (Sum.elim (fun z : Int32 × qa_M => z.2) (fun z : Int32 × qa_M => z.2))) z) := by
  unfold f_X12_laysOn_b77 at E
  have e_h : qfr wf_X12_laysOn_b77 h h := qfr_rf
  rcases qif_el E with E | E
  · refine qup_f (Q := fun z => qfr wf_X12_laysOn_b77 h ((Sum.elim (fun z : Int32 × Int32 × qa_M => z.2.2) (Sum.elim (fun z : Int32 × qa_M => z.2) (fun z : Int32 × qa_M => z.2))) z)) E (fun rz E => ?_)
    exact qfr_tr e_h (qfr_sub (qsub_c (List.mem_of_getElem? (i := 0) rfl) qsub_nil) (fr_X12_laysOn_b98 x1 x2 h E))
  · obtain ⟨c86, h86, E0, E⟩ := qbn_el E
    have e_h86 := qfr_tr e_h (qfr_sub qsub_nil (fr_X12_mayStand x1 x2 h E0))
    rcases qif_el E with E | E
    · obtain ⟨v92, -, E⟩ := qbd_el E
      exact qsome_f (Q := fun z => qfr wf_X12_laysOn_b77 h ((Sum.elim (fun z : Int32 × Int32 × qa_M => z.2.2) (Sum.elim (fun z : Int32 × qa_M => z.2) (fun z : Int32 × qa_M => z.2))) z)) E e_h86
    · refine qup_f (Q := fun z => qfr wf_X12_laysOn_b77 h ((Sum.elim (fun z : Int32 × Int32 × qa_M => z.2.2) (Sum.elim (fun z : Int32 × qa_M => z.2) (fun z : Int32 × qa_M => z.2))) z)) E (fun rz E => ?_)
      exact qfr_tr e_h86 (qfr_sub (qsub_c (List.mem_of_getElem? (i := 0) rfl) qsub_nil) (fr_X12_laysOn_b98 x1 x2 h86 E))
theorem fr_X12_laysOn_b77_loop (x1 : Int32) (x2 : Int32) (h : qa_M) {z : ((Int32 × qa_M) ⊕ (Int32 × qa_M))} (E : f_X12_laysOn_b77_loop x1 x2 h = some z) : qfr wf_X12_laysOn_b77 h ((Sum.elim (fun z : Int32 × qa_M => z.2) (fun z : Int32 × qa_M => z.2)) z) :=
  qlp_ind (fun sz : Int32 × Int32 × qa_M => qfr wf_X12_laysOn_b77 (sz.2.2) ((Sum.elim (fun z : Int32 × qa_M => z.2) (fun z : Int32 × qa_M => z.2)) z)) (fun sz E => fr_X12_laysOn_b77 sz.1 sz.2.1 sz.2.2 E) (fun sz sz2 E ih => qfr_tr (fr_X12_laysOn_b77 sz.1 sz.2.1 sz.2.2 E) ih) (x1, x2, h) E
def wf_X12_laysOn_b64 : List (Nat × Nat) := [(151, 0)]
theorem fr_X12_laysOn_b64 (x1 : Int32) (h : qa_M) {z : ((Int32 × qa_M) ⊕ (Int32 × qa_M))} (E : f_X12_laysOn_b64 x1 h = some z) : qfr wf_X12_laysOn_b64 h ((Sum.elim (fun z : Int32 × qa_M => z.2) (fun z : Int32 × qa_M => z.2)) z) := by
  unfold f_X12_laysOn_b64 at E
  have e_h : qfr wf_X12_laysOn_b64 h h := qfr_rf
  rcases qif_el E with E | E
  · refine qup_f (Q := fun z => qfr wf_X12_laysOn_b64 h ((Sum.elim (fun z : Int32 × qa_M => z.2) (fun z : Int32 × qa_M => z.2)) z)) E (fun rz E => ?_)
    exact qsome_f (Q := fun z => qfr wf_X12_laysOn_b64 h ((fun z : Int32 × qa_M => z.2) z)) E e_h
  · obtain ⟨-, E⟩ := qck_el E
    obtain ⟨v76, -, E⟩ := qbd_el E
    exact qfr_tr e_h (qfr_sub (qsub_c (List.mem_of_getElem? (i := 0) rfl) qsub_nil) (fr_X12_laysOn_b77_loop x1 v76 h E))
theorem fr_X12_laysOn_b64_loop (x1 : Int32) (h : qa_M) {z : (Int32 × qa_M)} (E : f_X12_laysOn_b64_loop x1 h = some z) : qfr wf_X12_laysOn_b64 h ((fun z : Int32 × qa_M => z.2) z) :=
  qlp_ind (fun sz : Int32 × qa_M => qfr wf_X12_laysOn_b64 (sz.2) ((fun z : Int32 × qa_M => z.2) z)) (fun sz E => fr_X12_laysOn_b64 sz.1 sz.2 E) (fun sz sz2 E ih => qfr_tr (fr_X12_laysOn_b64 sz.1 sz.2 E) ih) (x1, h) E
def wf_X12_laysOn_b59 : List (Nat × Nat) := [(119, 50), (151, 0)]
theorem fr_X12_laysOn_b59 (x1 : Int32) (h : qa_M) {z : (Int32 × qa_M)} (E : f_X12_laysOn_b59 x1 h = some z) : qfr wf_X12_laysOn_b59 h ((fun z : Int32 × qa_M => z.2) z) := by
  unfold f_X12_laysOn_b59 at E
  have e_h : qfr wf_X12_laysOn_b59 h h := qfr_rf
  obtain ⟨h61, q_h61, E⟩ := qbd_el E
  have e_h61 := qfr_Ik q_h61 (List.mem_of_getElem? (i := 0) rfl) e_h
  exact qfr_tr e_h61 (qfr_sub (qsub_c (List.mem_of_getElem? (i := 1) rfl) qsub_nil) (fr_X12_laysOn_b64_loop x1 h61 E))
def wf_X12_laysOn_b44 : List (Nat × Nat) := [(119, 50), (151, 0)]
theorem fr_X12_laysOn_b44 (s0 : Int32) (h : qa_M) {z : (Int32 × qa_M)} (E : f_X12_laysOn_b44 s0 h = some z) : qfr wf_X12_laysOn_b44 h ((fun z : Int32 × qa_M => z.2) z) := by
  unfold f_X12_laysOn_b44 at E
  have e_h : qfr wf_X12_laysOn_b44 h h := qfr_rf
  obtain ⟨v44, -, E⟩ := qbd_el E
  rcases qif_el E with E | E
  · obtain ⟨-, E⟩ := qck_el E
    obtain ⟨h58, q_h58, E⟩ := qbd_el E
    have e_h58 := qfr_I0 q_h58 (List.mem_of_getElem? (i := 1) rfl) e_h
    exact qfr_tr e_h58 (qfr_sub (qsub_c (List.mem_of_getElem? (i := 0) rfl) (qsub_c (List.mem_of_getElem? (i := 1) rfl) qsub_nil)) (fr_X12_laysOn_b59 v44 h58 E))
  · exact qfr_tr e_h (qfr_sub (qsub_c (List.mem_of_getElem? (i := 0) rfl) (qsub_c (List.mem_of_getElem? (i := 1) rfl) qsub_nil)) (fr_X12_laysOn_b59 v44 h E))
def wf_X12_laysOn_b19 : List (Nat × Nat) := [(119, 50)]
theorem fr_X12_laysOn_b19 (s0 : Int32) (h : qa_M) {z : (Int32 × qa_M)} (E : f_X12_laysOn_b19 s0 h = some z) : qfr wf_X12_laysOn_b19 h ((fun z : Int32 × qa_M => z.2) z) := by
  unfold f_X12_laysOn_b19 at E
  have e_h : qfr wf_X12_laysOn_b19 h h := qfr_rf
  obtain ⟨v19, -, E⟩ := qbd_el E
  obtain ⟨h22, q_h22, E⟩ := qbd_el E
  have e_h22 := qfr_Ik q_h22 (List.mem_of_getElem? (i := 0) rfl) e_h
  obtain ⟨-, E⟩ := qpr_el E
  exact qsome_f (Q := fun z => qfr wf_X12_laysOn_b19 h ((fun z : Int32 × qa_M => z.2) z)) E e_h22
def w_X12_laysOn : List (Nat × Nat) := [(119, 50), (151, 0)]
theorem fr_X12_laysOn (h : qa_M) {z : (Int32 × qa_M)} (E : m_X12_laysOn h = some z) : qfr w_X12_laysOn h ((fun z : Int32 × qa_M => z.2) z) := by
  unfold m_X12_laysOn at E
  have e_h : qfr w_X12_laysOn h h := qfr_rf
  rcases qif_el E with E | E
  · rcases qif_el E with E | E
    · exact qfr_tr e_h (qfr_sub (qsub_c (List.mem_of_getElem? (i := 0) rfl) qsub_nil) (fr_X12_laysOn_b19 (1 : Int32) h E))
    · exact qfr_tr e_h (qfr_sub (qsub_c (List.mem_of_getElem? (i := 0) rfl) qsub_nil) (fr_X12_laysOn_b19 (0 : Int32) h E))
  · rcases qif_el E with E | E
    · exact qfr_tr e_h (qfr_sub (qsub_c (List.mem_of_getElem? (i := 0) rfl) (qsub_c (List.mem_of_getElem? (i := 1) rfl) qsub_nil)) (fr_X12_laysOn_b44 (0 : Int32) h E))
    · exact qfr_tr e_h (qfr_sub (qsub_c (List.mem_of_getElem? (i := 0) rfl) (qsub_c (List.mem_of_getElem? (i := 1) rfl) qsub_nil)) (fr_X12_laysOn_b44 ((h.1 119 48) - (1 : Int32)) h E))
theorem fr_X12_fitsNote_b59 (x1 : Int32) (x2 : Int32) (h : qa_M) {z : (Int32 × qa_M)} (E : f_X12_fitsNote_b59 x1 x2 h = some z) : qfr wz h ((fun z : Int32 × qa_M => z.2) z) := by
  unfold f_X12_fitsNote_b59 at E
  have e_h : qfr wz h h := qfr_rf
  obtain ⟨-, E⟩ := qck_el E
  rcases qif_el E with E | E
  · obtain ⟨-, E⟩ := qck_el E
    rcases qif_el E with E | E
    · exact qsome_f (Q := fun z => qfr wz h ((fun z : Int32 × qa_M => z.2) z)) E e_h
    · exact qsome_f (Q := fun z => qfr wz h ((fun z : Int32 × qa_M => z.2) z)) E e_h
  · rcases qif_el E with E | E
    · exact qsome_f (Q := fun z => qfr wz h ((fun z : Int32 × qa_M => z.2) z)) E e_h
    · exact qsome_f (Q := fun z => qfr wz h ((fun z : Int32 × qa_M => z.2) z)) E e_h
theorem fr_X12_fitsNote_b51 (x1 : Int32) (x3 : Int32) (s0 : Int32) (s1 : Int32) (h : qa_M) {z : ((Int32 × Int32 × Int32 × qa_M) ⊕ (Int32 × qa_M))} (E : f_X12_fitsNote_b51 x1 x3 s0 s1 h = some z) : qfr wz h ((Sum.elim (fun z : Int32 × Int32 × Int32 × qa_M => z.2.2.2) (fun z : Int32 × qa_M => z.2)) z) := by
  unfold f_X12_fitsNote_b51 at E
  have e_h : qfr wz h h := qfr_rf
  obtain ⟨v52, -, E⟩ := qbd_el E
  obtain ⟨v53, -, E⟩ := qbd_el E
  exact qsome_f (Q := fun z => qfr wz h ((Sum.elim (fun z : Int32 × Int32 × Int32 × qa_M => z.2.2.2) (fun z : Int32 × qa_M => z.2)) z)) E e_h
theorem fr_X12_fitsNote_b50 (x1 : Int32) (x3 : Int32) (s0 : Int32) (h : qa_M) {z : ((Int32 × Int32 × Int32 × qa_M) ⊕ (Int32 × qa_M))} (E : f_X12_fitsNote_b50 x1 x3 s0 h = some z) : qfr wz h ((Sum.elim (fun z : Int32 × Int32 × Int32 × qa_M => z.2.2.2) (fun z : Int32 × qa_M => z.2)) z) := by
  unfold f_X12_fitsNote_b50 at E
  have e_h : qfr wz h h := qfr_rf
  exact qfr_tr e_h (qfr_sub qsub_nil (fr_X12_fitsNote_b51 x1 x3 s0 (0 : Int32) h E))
theorem fr_X12_fitsNote_b4 (x1 : Int32) (x2 : Int32) (x3 : Int32) (h : qa_M) {z : ((Int32 × Int32 × Int32 × qa_M) ⊕ (Int32 × qa_M))} (E : f_X12_fitsNote_b4 x1 x2 x3 h = some z) : qfr wz h ((Sum.elim (fun z : Int32 × Int32 × Int32 × qa_M => z.2.2.2) (fun z : Int32 × qa_M => z.2)) z) := by
  unfold f_X12_fitsNote_b4 at E
  have e_h : qfr wz h h := qfr_rf
  rcases qif_el E with E | E
  · refine qup_f (Q := fun z => qfr wz h ((Sum.elim (fun z : Int32 × Int32 × Int32 × qa_M => z.2.2.2) (fun z : Int32 × qa_M => z.2)) z)) E (fun rz E => ?_)
    exact qfr_tr e_h (qfr_sub qsub_nil (fr_X12_fitsNote_b59 x1 x2 h E))
  · obtain ⟨-, E⟩ := qck_el E
    obtain ⟨-, E⟩ := qck_el E
    rcases qif_el E with E | E
    · obtain ⟨-, E⟩ := qck_el E
      obtain ⟨-, E⟩ := qck_el E
      obtain ⟨c40, h40, E0, E⟩ := qbn_el E
      have e_h40 := qfr_tr e_h (qfr_sub qsub_nil (fr_X12_has (h.2.1 155 x1.toNatClampNeg) (h.1 151 x3.toNatClampNeg) h E0))
      rcases qif_el E with E | E
      · exact qfr_tr e_h40 (qfr_sub qsub_nil (fr_X12_fitsNote_b50 x1 x3 x2 h40 E))
      · exact qfr_tr e_h40 (qfr_sub qsub_nil (fr_X12_fitsNote_b51 x1 x3 x2 (1 : Int32) h40 E))
    · exact qfr_tr e_h (qfr_sub qsub_nil (fr_X12_fitsNote_b50 x1 x3 x2 h E))
theorem fr_X12_fitsNote_b4_loop (x1 : Int32) (x2 : Int32) (x3 : Int32) (h : qa_M) {z : (Int32 × qa_M)} (E : f_X12_fitsNote_b4_loop x1 x2 x3 h = some z) : qfr wz h ((fun z : Int32 × qa_M => z.2) z) :=
  qlp_ind (fun sz : Int32 × Int32 × Int32 × qa_M => qfr wz (sz.2.2.2) ((fun z : Int32 × qa_M => z.2) z)) (fun sz E => fr_X12_fitsNote_b4 sz.1 sz.2.1 sz.2.2.1 sz.2.2.2 E) (fun sz sz2 E ih => qfr_tr (fr_X12_fitsNote_b4 sz.1 sz.2.1 sz.2.2.1 sz.2.2.2 E) ih) (x1, x2, x3, h) E
theorem fr_X12_fitsNote (x1 : Int32) (h : qa_M) {z : (Int32 × qa_M)} (E : m_X12_fitsNote x1 h = some z) : qfr wz h ((fun z : Int32 × qa_M => z.2) z) := by
  unfold m_X12_fitsNote at E
  have e_h : qfr wz h h := qfr_rf
  obtain ⟨v1, -, E⟩ := qbd_el E
  obtain ⟨v3, -, E⟩ := qbd_el E
  exact qfr_tr e_h (qfr_sub qsub_nil (fr_X12_fitsNote_b4_loop x1 v1 v3 h E))
theorem fr_X12_fitsOf_b39 (x1 : Int32) (x3 : Int32) (s0 : Int32) (s1 : Int32) (h : qa_M) {z : ((Int32 × Int32 × Int32 × qa_M) ⊕ (Int32 × qa_M))} (E : f_X12_fitsOf_b39 x1 x3 s0 s1 h = some z) : qfr wz h ((Sum.elim (fun z : Int32 × Int32 × Int32 × qa_M => z.2.2.2) (fun z : Int32 × qa_M => z.2)) z) := by
  unfold f_X12_fitsOf_b39 at E
  have e_h : qfr wz h h := qfr_rf
  obtain ⟨v40, -, E⟩ := qbd_el E
  obtain ⟨v41, -, E⟩ := qbd_el E
  exact qsome_f (Q := fun z => qfr wz h ((Sum.elim (fun z : Int32 × Int32 × Int32 × qa_M => z.2.2.2) (fun z : Int32 × qa_M => z.2)) z)) E e_h
theorem fr_X12_fitsOf_b38 (x1 : Int32) (x3 : Int32) (s0 : Int32) (h : qa_M) {z : ((Int32 × Int32 × Int32 × qa_M) ⊕ (Int32 × qa_M))} (E : f_X12_fitsOf_b38 x1 x3 s0 h = some z) : qfr wz h ((Sum.elim (fun z : Int32 × Int32 × Int32 × qa_M => z.2.2.2) (fun z : Int32 × qa_M => z.2)) z) := by
  unfold f_X12_fitsOf_b38 at E
  have e_h : qfr wz h h := qfr_rf
  exact qfr_tr e_h (qfr_sub qsub_nil (fr_X12_fitsOf_b39 x1 x3 s0 (0 : Int32) h E))
theorem fr_X12_fitsOf_b4 (x1 : Int32) (x2 : Int32) (x3 : Int32) (h : qa_M) {z : ((Int32 × Int32 × Int32 × qa_M) ⊕ (Int32 × qa_M))} (E : f_X12_fitsOf_b4 x1 x2 x3 h = some z) : qfr wz h ((Sum.elim (fun z : Int32 × Int32 × Int32 × qa_M => z.2.2.2) (fun z : Int32 × qa_M => z.2)) z) := by
  unfold f_X12_fitsOf_b4 at E
  have e_h : qfr wz h h := qfr_rf
  obtain ⟨-, E⟩ := qck_el E
  rcases qif_el E with E | E
  · refine qup_f (Q := fun z => qfr wz h ((Sum.elim (fun z : Int32 × Int32 × Int32 × qa_M => z.2.2.2) (fun z : Int32 × qa_M => z.2)) z)) E (fun rz E => ?_)
    exact qsome_f (Q := fun z => qfr wz h ((fun z : Int32 × qa_M => z.2) z)) E e_h
  · obtain ⟨c18, h18, E0, E⟩ := qbn_el E
    have e_h18 := qfr_tr e_h (qfr_sub qsub_nil (fr_X12_has x1.toInt64 x3 h E0))
    rcases qif_el E with E | E
    · exact qfr_tr e_h18 (qfr_sub qsub_nil (fr_X12_fitsOf_b38 x1 x3 x2 h18 E))
    · obtain ⟨c26, h26, E0, E⟩ := qbn_el E
      have e_h26 := qfr_tr e_h18 (qfr_sub qsub_nil (fr_X12_fitsNote x3 h18 E0))
      rcases qif_el E with E | E
      · exact qfr_tr e_h26 (qfr_sub qsub_nil (fr_X12_fitsOf_b38 x1 x3 x2 h26 E))
      · exact qfr_tr e_h26 (qfr_sub qsub_nil (fr_X12_fitsOf_b39 x1 x3 x2 ((1 : Int32) <<< (x3 &&& 31)) h26 E))
theorem fr_X12_fitsOf_b4_loop (x1 : Int32) (x2 : Int32) (x3 : Int32) (h : qa_M) {z : (Int32 × qa_M)} (E : f_X12_fitsOf_b4_loop x1 x2 x3 h = some z) : qfr wz h ((fun z : Int32 × qa_M => z.2) z) :=
  qlp_ind (fun sz : Int32 × Int32 × Int32 × qa_M => qfr wz (sz.2.2.2) ((fun z : Int32 × qa_M => z.2) z)) (fun sz E => fr_X12_fitsOf_b4 sz.1 sz.2.1 sz.2.2.1 sz.2.2.2 E) (fun sz sz2 E ih => qfr_tr (fr_X12_fitsOf_b4 sz.1 sz.2.1 sz.2.2.1 sz.2.2.2 E) ih) (x1, x2, x3, h) E
theorem fr_X12_fitsOf (x1 : Int32) (h : qa_M) {z : (Int32 × qa_M)} (E : m_X12_fitsOf x1 h = some z) : qfr wz h ((fun z : Int32 × qa_M => z.2) z) := by
  unfold m_X12_fitsOf at E
  have e_h : qfr wz h h := qfr_rf
  obtain ⟨v1, -, E⟩ := qbd_el E
  obtain ⟨v3, -, E⟩ := qbd_el E
  exact qfr_tr e_h (qfr_sub qsub_nil (fr_X12_fitsOf_b4_loop x1 v1 v3 h E))
def wf_X12_goesTo_b5 : List (Nat × Nat) := [(119, 50), (151, 0)]
theorem fr_X12_goesTo_b5 (x1 : Int32) (x2 : Int32) (h : qa_M) {z : ((Int32 × Int32 × qa_M) ⊕ (Int32 × qa_M))} (E : f_X12_goesTo_b5 x1 x2 h = some z) : qfr wf_X12_goesTo_b5 h ((Sum.elim (fun z : Int32 × Int32 × qa_M => z.2.2) (fun z : Int32 × qa_M => z.2)) z) := by
  unfold f_X12_goesTo_b5 at E
  have e_h : qfr wf_X12_goesTo_b5 h h := qfr_rf
  rcases qif_el E with E | E
  · obtain ⟨-, E⟩ := qpr_el E
    refine qup_f (Q := fun z => qfr wf_X12_goesTo_b5 h ((Sum.elim (fun z : Int32 × Int32 × qa_M => z.2.2) (fun z : Int32 × qa_M => z.2)) z)) E (fun rz E => ?_)
    exact qsome_f (Q := fun z => qfr wf_X12_goesTo_b5 h ((fun z : Int32 × qa_M => z.2) z)) E e_h
  · obtain ⟨c11, h11, E0, E⟩ := qbn_el E
    have e_h11 := qfr_tr e_h (qfr_sub qsub_nil (fr_X12_fitsOf x1 h E0))
    rcases qif_el E with E | E
    · obtain ⟨-, E⟩ := qpr_el E
      refine qup_f (Q := fun z => qfr wf_X12_goesTo_b5 h ((Sum.elim (fun z : Int32 × Int32 × qa_M => z.2.2) (fun z : Int32 × qa_M => z.2)) z)) E (fun rz E => ?_)
      exact qsome_f (Q := fun z => qfr wf_X12_goesTo_b5 h ((fun z : Int32 × qa_M => z.2) z)) E e_h11
    · obtain ⟨c19, h19, E0, E⟩ := qbn_el E
      have e_h19 := qfr_tr e_h11 (qfr_sub (qsub_c (List.mem_of_getElem? (i := 0) rfl) (qsub_c (List.mem_of_getElem? (i := 1) rfl) qsub_nil)) (fr_X12_laysOn h11 E0))
      obtain ⟨v22, -, E⟩ := qbd_el E
      exact qsome_f (Q := fun z => qfr wf_X12_goesTo_b5 h ((Sum.elim (fun z : Int32 × Int32 × qa_M => z.2.2) (fun z : Int32 × qa_M => z.2)) z)) E e_h19
theorem fr_X12_goesTo_b5_loop (x1 : Int32) (x2 : Int32) (h : qa_M) {z : (Int32 × qa_M)} (E : f_X12_goesTo_b5_loop x1 x2 h = some z) : qfr wf_X12_goesTo_b5 h ((fun z : Int32 × qa_M => z.2) z) :=
  qlp_ind (fun sz : Int32 × Int32 × qa_M => qfr wf_X12_goesTo_b5 (sz.2.2) ((fun z : Int32 × qa_M => z.2) z)) (fun sz E => fr_X12_goesTo_b5 sz.1 sz.2.1 sz.2.2 E) (fun sz sz2 E ih => qfr_tr (fr_X12_goesTo_b5 sz.1 sz.2.1 sz.2.2 E) ih) (x1, x2, h) E
def w_X12_goesTo : List (Nat × Nat) := [(119, 50), (151, 0)]
theorem fr_X12_goesTo (x1 : Int32) (h : qa_M) {z : (Int32 × qa_M)} (E : m_X12_goesTo x1 h = some z) : qfr w_X12_goesTo h ((fun z : Int32 × qa_M => z.2) z) := by
  unfold m_X12_goesTo at E
  have e_h : qfr w_X12_goesTo h h := qfr_rf
  obtain ⟨c1, h1, E0, E⟩ := qbn_el E
  have e_h1 := qfr_tr e_h (qfr_sub (qsub_c (List.mem_of_getElem? (i := 0) rfl) (qsub_c (List.mem_of_getElem? (i := 1) rfl) qsub_nil)) (fr_X12_laysOn h E0))
  obtain ⟨v4, -, E⟩ := qbd_el E
  exact qfr_tr e_h1 (qfr_sub (qsub_c (List.mem_of_getElem? (i := 0) rfl) (qsub_c (List.mem_of_getElem? (i := 1) rfl) qsub_nil)) (fr_X12_goesTo_b5_loop x1 v4 h1 E))
def wf_X12_manyFit_b6 : List (Nat × Nat) := [(119, 50), (151, 0)]
theorem fr_X12_manyFit_b6 (x1 : Int32) (x2 : Int32) (h : qa_M) {z : ((Int32 × Int32 × qa_M) ⊕ (Int32 × qa_M))} (E : f_X12_manyFit_b6 x1 x2 h = some z) : qfr wf_X12_manyFit_b6 h ((Sum.elim (fun z : Int32 × Int32 × qa_M => z.2.2) (fun z : Int32 × qa_M => z.2)) z) := by
  unfold f_X12_manyFit_b6 at E
  have e_h : qfr wf_X12_manyFit_b6 h h := qfr_rf
  obtain ⟨c8, h8, E0, E⟩ := qbn_el E
  have e_h8 := qfr_tr e_h (qfr_sub (qsub_c (List.mem_of_getElem? (i := 0) rfl) (qsub_c (List.mem_of_getElem? (i := 1) rfl) qsub_nil)) (fr_X12_goesTo x1 h E0))
  rcases qif_el E with E | E
  · refine qup_f (Q := fun z => qfr wf_X12_manyFit_b6 h ((Sum.elim (fun z : Int32 × Int32 × qa_M => z.2.2) (fun z : Int32 × qa_M => z.2)) z)) E (fun rz E => ?_)
    exact qsome_f (Q := fun z => qfr wf_X12_manyFit_b6 h ((fun z : Int32 × qa_M => z.2) z)) E e_h8
  · obtain ⟨v14, -, E⟩ := qbd_el E
    exact qsome_f (Q := fun z => qfr wf_X12_manyFit_b6 h ((Sum.elim (fun z : Int32 × Int32 × qa_M => z.2.2) (fun z : Int32 × qa_M => z.2)) z)) E e_h8
theorem fr_X12_manyFit_b6_loop (x1 : Int32) (x2 : Int32) (h : qa_M) {z : (Int32 × qa_M)} (E : f_X12_manyFit_b6_loop x1 x2 h = some z) : qfr wf_X12_manyFit_b6 h ((fun z : Int32 × qa_M => z.2) z) :=
  qlp_ind (fun sz : Int32 × Int32 × qa_M => qfr wf_X12_manyFit_b6 (sz.2.2) ((fun z : Int32 × qa_M => z.2) z)) (fun sz E => fr_X12_manyFit_b6 sz.1 sz.2.1 sz.2.2 E) (fun sz sz2 E ih => qfr_tr (fr_X12_manyFit_b6 sz.1 sz.2.1 sz.2.2 E) ih) (x1, x2, h) E
def w_X12_manyFit : List (Nat × Nat) := [(119, 49), (119, 50), (149, 0), (150, 0), (151, 0), (152, 0), (153, 0), (154, 0), (155, 0)]
theorem fr_X12_manyFit (x1 : Int32) (h : qa_M) {z : (Int32 × qa_M)} (E : m_X12_manyFit x1 h = some z) : qfr w_X12_manyFit h ((fun z : Int32 × qa_M => z.2) z) := by
  unfold m_X12_manyFit at E
  have e_h : qfr w_X12_manyFit h h := qfr_rf
  obtain ⟨h1, E0, E⟩ := qbv_el E
  have e_h1 := qfr_tr e_h (qfr_sub (qsub_c (List.mem_of_getElem? (i := 0) rfl) (qsub_c (List.mem_of_getElem? (i := 1) rfl) (qsub_c (List.mem_of_getElem? (i := 2) rfl) (qsub_c (List.mem_of_getElem? (i := 3) rfl) (qsub_c (List.mem_of_getElem? (i := 5) rfl) (qsub_c (List.mem_of_getElem? (i := 6) rfl) (qsub_c (List.mem_of_getElem? (i := 7) rfl) (qsub_c (List.mem_of_getElem? (i := 8) rfl) qsub_nil)))))))) (fr_X12_beginsLayings h E0))
  obtain ⟨v5, -, E⟩ := qbd_el E
  exact qfr_tr e_h1 (qfr_sub (qsub_c (List.mem_of_getElem? (i := 1) rfl) (qsub_c (List.mem_of_getElem? (i := 4) rfl) qsub_nil)) (fr_X12_manyFit_b6_loop x1 v5 h1 E))
def w_X12_layings : List (Nat × Nat) := [(119, 49), (119, 50), (149, 0), (150, 0), (151, 0), (152, 0), (153, 0), (154, 0), (155, 0)]
theorem fr_X12_layings (x1 : Int32) (h : qa_M) {z : (Int32 × qa_M)} (E : m_X12_layings x1 h = some z) : qfr w_X12_layings h ((fun z : Int32 × qa_M => z.2) z) := by
  unfold m_X12_layings at E
  have e_h : qfr w_X12_layings h h := qfr_rf
  obtain ⟨c2, h2, E0, E⟩ := qbn_el E
  have e_h2 := qfr_tr e_h (qfr_sub qsub_nil (fr_X12_isSet x1 h E0))
  rcases qif_el E with E | E
  · exact qsome_f (Q := fun z => qfr w_X12_layings h ((fun z : Int32 × qa_M => z.2) z)) E e_h2
  · obtain ⟨c10, h10, E0, E⟩ := qbn_el E
    have e_h10 := qfr_tr e_h2 (qfr_sub (qsub_c (List.mem_of_getElem? (i := 0) rfl) (qsub_c (List.mem_of_getElem? (i := 1) rfl) (qsub_c (List.mem_of_getElem? (i := 2) rfl) (qsub_c (List.mem_of_getElem? (i := 3) rfl) (qsub_c (List.mem_of_getElem? (i := 4) rfl) (qsub_c (List.mem_of_getElem? (i := 5) rfl) (qsub_c (List.mem_of_getElem? (i := 6) rfl) (qsub_c (List.mem_of_getElem? (i := 7) rfl) (qsub_c (List.mem_of_getElem? (i := 8) rfl) qsub_nil))))))))) (fr_X12_manyFit x1 h2 E0))
    exact qsome_f (Q := fun z => qfr w_X12_layings h ((fun z : Int32 × qa_M => z.2) z)) E e_h10
theorem fr_X12_stoodOn_b45 (x1 : Int32) (x2 : Int32) (x4 : Int32) (s0 : Int32) (h : qa_M) {z : ((Int32 × Int32 × Int32 × Int32 × qa_M) ⊕ (Int32 × qa_M))} (E : f_X12_stoodOn_b45 x1 x2 x4 s0 h = some z) : qfr wz h ((Sum.elim (fun z : Int32 × Int32 × Int32 × Int32 × qa_M => z.2.2.2.2) (fun z : Int32 × qa_M => z.2)) z) := by
  unfold f_X12_stoodOn_b45 at E
  have e_h : qfr wz h h := qfr_rf
  obtain ⟨v45, -, E⟩ := qbd_el E
  obtain ⟨v46, -, E⟩ := qbd_el E
  exact qsome_f (Q := fun z => qfr wz h ((Sum.elim (fun z : Int32 × Int32 × Int32 × Int32 × qa_M => z.2.2.2.2) (fun z : Int32 × qa_M => z.2)) z)) E e_h
theorem fr_X12_stoodOn_b40 (x1 : Int32) (x2 : Int32) (x4 : Int32) (h : qa_M) {z : ((Int32 × Int32 × Int32 × Int32 × qa_M) ⊕ (Int32 × qa_M))} (E : f_X12_stoodOn_b40 x1 x2 x4 h = some z) : qfr wz h ((Sum.elim (fun z : Int32 × Int32 × Int32 × Int32 × qa_M => z.2.2.2.2) (fun z : Int32 × qa_M => z.2)) z) := by
  unfold f_X12_stoodOn_b40 at E
  have e_h : qfr wz h h := qfr_rf
  exact qfr_tr e_h (qfr_sub qsub_nil (fr_X12_stoodOn_b45 x1 x2 x4 (1 : Int32) h E))
theorem fr_X12_stoodOn_b44 (x1 : Int32) (x2 : Int32) (x4 : Int32) (h : qa_M) {z : ((Int32 × Int32 × Int32 × Int32 × qa_M) ⊕ (Int32 × qa_M))} (E : f_X12_stoodOn_b44 x1 x2 x4 h = some z) : qfr wz h ((Sum.elim (fun z : Int32 × Int32 × Int32 × Int32 × qa_M => z.2.2.2.2) (fun z : Int32 × qa_M => z.2)) z) := by
  unfold f_X12_stoodOn_b44 at E
  have e_h : qfr wz h h := qfr_rf
  exact qfr_tr e_h (qfr_sub qsub_nil (fr_X12_stoodOn_b45 x1 x2 x4 (0 : Int32) h E))
theorem fr_X12_stoodOn_b5 (x1 : Int32) (x2 : Int32) (x3 : Int32) (x4 : Int32) (h : qa_M) {z : ((Int32 × Int32 × Int32 × Int32 × qa_M) ⊕ (Int32 × qa_M))} (E : f_X12_stoodOn_b5 x1 x2 x3 x4 h = some z) : qfr wz h ((Sum.elim (fun z : Int32 × Int32 × Int32 × Int32 × qa_M => z.2.2.2.2) (fun z : Int32 × qa_M => z.2)) z) := by
  unfold f_X12_stoodOn_b5 at E
  have e_h : qfr wz h h := qfr_rf
  rcases qif_el E with E | E
  · obtain ⟨-, E⟩ := qpr_el E
    refine qup_f (Q := fun z => qfr wz h ((Sum.elim (fun z : Int32 × Int32 × Int32 × Int32 × qa_M => z.2.2.2.2) (fun z : Int32 × qa_M => z.2)) z)) E (fun rz E => ?_)
    exact qsome_f (Q := fun z => qfr wz h ((fun z : Int32 × qa_M => z.2) z)) E e_h
  · rcases qif_el E with E | E
    · obtain ⟨-, E⟩ := qck_el E
      rcases qif_el E with E | E
      · obtain ⟨-, E⟩ := qck_el E
        rcases qif_el E with E | E
        · exact qfr_tr e_h (qfr_sub qsub_nil (fr_X12_stoodOn_b40 x1 x2 x4 h E))
        · exact qfr_tr e_h (qfr_sub qsub_nil (fr_X12_stoodOn_b44 x1 x2 x4 h E))
      · exact qfr_tr e_h (qfr_sub qsub_nil (fr_X12_stoodOn_b44 x1 x2 x4 h E))
    · exact qfr_tr e_h (qfr_sub qsub_nil (fr_X12_stoodOn_b40 x1 x2 x4 h E))
theorem fr_X12_stoodOn_b5_loop (x1 : Int32) (x2 : Int32) (x3 : Int32) (x4 : Int32) (h : qa_M) {z : (Int32 × qa_M)} (E : f_X12_stoodOn_b5_loop x1 x2 x3 x4 h = some z) : qfr wz h ((fun z : Int32 × qa_M => z.2) z) :=
  qlp_ind (fun sz : Int32 × Int32 × Int32 × Int32 × qa_M => qfr wz (sz.2.2.2.2) ((fun z : Int32 × qa_M => z.2) z)) (fun sz E => fr_X12_stoodOn_b5 sz.1 sz.2.1 sz.2.2.1 sz.2.2.2.1 sz.2.2.2.2 E) (fun sz sz2 E ih => qfr_tr (fr_X12_stoodOn_b5 sz.1 sz.2.1 sz.2.2.1 sz.2.2.2.1 sz.2.2.2.2 E) ih) (x1, x2, x3, x4, h) E
theorem fr_X12_stoodOn (x1 : Int32) (x2 : Int32) (h : qa_M) {z : (Int32 × qa_M)} (E : m_X12_stoodOn x1 x2 h = some z) : qfr wz h ((fun z : Int32 × qa_M => z.2) z) := by
  unfold m_X12_stoodOn at E
  have e_h : qfr wz h h := qfr_rf
  obtain ⟨v1, -, E⟩ := qbd_el E
  obtain ⟨v3, -, E⟩ := qbd_el E
  exact qfr_tr e_h (qfr_sub qsub_nil (fr_X12_stoodOn_b5_loop x1 x2 v1 v3 h E))
def wf_X12_counts_b51 : List (Nat × Nat) := [(119, 52)]
theorem fr_X12_counts_b51 (x1 : Int32) (x2 : Int32) (x3 : Int32) (s1 : Int32) (s2 : Int32) (h : qa_M) {z : ((Int32 × Int32 × Int32 × qa_M) ⊕ qa_M)} (E : f_X12_counts_b51 x1 x2 x3 s1 s2 h = some z) : qfr wf_X12_counts_b51 h ((Sum.elim (fun z : Int32 × Int32 × Int32 × qa_M => z.2.2.2) (fun z : qa_M => z)) z) := by
  unfold f_X12_counts_b51 at E
  have e_h : qfr wf_X12_counts_b51 h h := qfr_rf
  obtain ⟨h52, q_h52, E⟩ := qbd_el E
  have e_h52 := qfr_Ik q_h52 (List.mem_of_getElem? (i := 0) rfl) e_h
  exact qsome_f (Q := fun z => qfr wf_X12_counts_b51 h ((Sum.elim (fun z : Int32 × Int32 × Int32 × qa_M => z.2.2.2) (fun z : qa_M => z)) z)) E e_h52
def wf_X12_counts_b14 : List (Nat × Nat) := [(119, 50), (119, 51), (119, 52), (151, 0)]
theorem fr_X12_counts_b14 (x1 : Int32) (x2 : Int32) (x3 : Int32) (h : qa_M) {z : ((Int32 × Int32 × Int32 × qa_M) ⊕ qa_M)} (E : f_X12_counts_b14 x1 x2 x3 h = some z) : qfr wf_X12_counts_b14 h ((Sum.elim (fun z : Int32 × Int32 × Int32 × qa_M => z.2.2.2) (fun z : qa_M => z)) z) := by
  unfold f_X12_counts_b14 at E
  have e_h : qfr wf_X12_counts_b14 h h := qfr_rf
  obtain ⟨c16, h16, E0, E⟩ := qbn_el E
  have e_h16 := qfr_tr e_h (qfr_sub (qsub_c (List.mem_of_getElem? (i := 0) rfl) (qsub_c (List.mem_of_getElem? (i := 3) rfl) qsub_nil)) (fr_X12_goesTo x1 h E0))
  rcases qif_el E with E | E
  · refine qup_f (Q := fun z => qfr wf_X12_counts_b14 h ((Sum.elim (fun z : Int32 × Int32 × Int32 × qa_M => z.2.2.2) (fun z : qa_M => z)) z)) E (fun rz E => ?_)
    exact qsome_f (Q := fun z => qfr wf_X12_counts_b14 h ((fun z : qa_M => z) z)) E e_h16
  · obtain ⟨h29, q_h29, E⟩ := qbd_el E
    have e_h29 := qfr_Ik q_h29 (List.mem_of_getElem? (i := 1) rfl) e_h16
    obtain ⟨c40, h40, E0, E⟩ := qbn_el E
    have e_h40 := qfr_tr e_h29 (qfr_sub qsub_nil (fr_X12_stoodOn x2 x3 h29 E0))
    rcases qif_el E with E | E
    · exact qfr_tr e_h40 (qfr_sub (qsub_c (List.mem_of_getElem? (i := 2) rfl) qsub_nil) (fr_X12_counts_b51 x1 x2 x3 (h29.1 119 51) (0 : Int32) h40 E))
    · exact qfr_tr e_h40 (qfr_sub (qsub_c (List.mem_of_getElem? (i := 2) rfl) qsub_nil) (fr_X12_counts_b51 x1 x2 x3 (h29.1 119 51) (1 : Int32) h40 E))
theorem fr_X12_counts_b14_loop (x1 : Int32) (x2 : Int32) (x3 : Int32) (h : qa_M) {z : qa_M} (E : f_X12_counts_b14_loop x1 x2 x3 h = some z) : qfr wf_X12_counts_b14 h ((fun z : qa_M => z) z) :=
  qlp_ind (fun sz : Int32 × Int32 × Int32 × qa_M => qfr wf_X12_counts_b14 (sz.2.2.2) ((fun z : qa_M => z) z)) (fun sz E => fr_X12_counts_b14 sz.1 sz.2.1 sz.2.2.1 sz.2.2.2 E) (fun sz sz2 E ih => qfr_tr (fr_X12_counts_b14 sz.1 sz.2.1 sz.2.2.1 sz.2.2.2 E) ih) (x1, x2, x3, h) E
def w_X12_counts : List (Nat × Nat) := [(119, 49), (119, 50), (119, 51), (119, 52), (149, 0), (150, 0), (151, 0), (152, 0), (153, 0), (154, 0), (155, 0)]
theorem fr_X12_counts (x1 : Int32) (x2 : Int32) (x3 : Int32) (h : qa_M) {z : qa_M} (E : m_X12_counts x1 x2 x3 h = some z) : qfr w_X12_counts h ((fun z : qa_M => z) z) := by
  unfold m_X12_counts at E
  have e_h : qfr w_X12_counts h h := qfr_rf
  obtain ⟨h1, E0, E⟩ := qbv_el E
  have e_h1 := qfr_tr e_h (qfr_sub (qsub_c (List.mem_of_getElem? (i := 0) rfl) (qsub_c (List.mem_of_getElem? (i := 1) rfl) (qsub_c (List.mem_of_getElem? (i := 4) rfl) (qsub_c (List.mem_of_getElem? (i := 5) rfl) (qsub_c (List.mem_of_getElem? (i := 7) rfl) (qsub_c (List.mem_of_getElem? (i := 8) rfl) (qsub_c (List.mem_of_getElem? (i := 9) rfl) (qsub_c (List.mem_of_getElem? (i := 10) rfl) qsub_nil)))))))) (fr_X12_beginsLayings h E0))
  obtain ⟨h6, q_h6, E⟩ := qbd_el E
  have e_h6 := qfr_Ik q_h6 (List.mem_of_getElem? (i := 2) rfl) e_h1
  obtain ⟨h11, q_h11, E⟩ := qbd_el E
  have e_h11 := qfr_Ik q_h11 (List.mem_of_getElem? (i := 3) rfl) e_h6
  exact qfr_tr e_h11 (qfr_sub (qsub_c (List.mem_of_getElem? (i := 1) rfl) (qsub_c (List.mem_of_getElem? (i := 2) rfl) (qsub_c (List.mem_of_getElem? (i := 3) rfl) (qsub_c (List.mem_of_getElem? (i := 6) rfl) qsub_nil)))) (fr_X12_counts_b14_loop x1 x2 x3 h11 E))
def w_X12_may : List (Nat × Nat) := [(119, 49), (119, 50), (119, 51), (119, 52), (149, 0), (150, 0), (151, 0), (152, 0), (153, 0), (154, 0), (155, 0)]
theorem fr_X12_may (x1 : Int32) (x2 : Int32) (x3 : Int32) (x4 : Int32) (h : qa_M) {z : (Int32 × qa_M)} (E : m_X12_may x1 x2 x3 x4 h = some z) : qfr w_X12_may h ((fun z : Int32 × qa_M => z.2) z) := by
  unfold m_X12_may at E
  have e_h : qfr w_X12_may h h := qfr_rf
  obtain ⟨c2, h2, E0, E⟩ := qbn_el E
  have e_h2 := qfr_tr e_h (qfr_sub qsub_nil (fr_X12_isSet x1 h E0))
  rcases qif_el E with E | E
  · exact qsome_f (Q := fun z => qfr w_X12_may h ((fun z : Int32 × qa_M => z.2) z)) E e_h2
  · obtain ⟨c11, h11, E0, E⟩ := qbn_el E
    have e_h11 := qfr_tr e_h2 (qfr_sub qsub_nil (fr_X12_isSquare x2 x3 h2 E0))
    rcases qif_el E with E | E
    · exact qsome_f (Q := fun z => qfr w_X12_may h ((fun z : Int32 × qa_M => z.2) z)) E e_h11
    · obtain ⟨c20, h20, E0, E⟩ := qbn_el E
      have e_h20 := qfr_tr e_h11 (qfr_sub qsub_nil (fr_X12_isSort x4 h11 E0))
      rcases qif_el E with E | E
      · exact qsome_f (Q := fun z => qfr w_X12_may h ((fun z : Int32 × qa_M => z.2) z)) E e_h20
      · obtain ⟨h38, E0, E⟩ := qbv_el E
        have e_h38 := qfr_tr e_h20 (qfr_sub (qsub_c (List.mem_of_getElem? (i := 0) rfl) (qsub_c (List.mem_of_getElem? (i := 1) rfl) (qsub_c (List.mem_of_getElem? (i := 2) rfl) (qsub_c (List.mem_of_getElem? (i := 3) rfl) (qsub_c (List.mem_of_getElem? (i := 4) rfl) (qsub_c (List.mem_of_getElem? (i := 5) rfl) (qsub_c (List.mem_of_getElem? (i := 6) rfl) (qsub_c (List.mem_of_getElem? (i := 7) rfl) (qsub_c (List.mem_of_getElem? (i := 8) rfl) (qsub_c (List.mem_of_getElem? (i := 9) rfl) (qsub_c (List.mem_of_getElem? (i := 10) rfl) qsub_nil))))))))))) (fr_X12_counts x1 (((6 : Int32) * x3) + x2) x4 h20 E0))
        rcases qif_el E with E | E
        · exact qsome_f (Q := fun z => qfr w_X12_may h ((fun z : Int32 × qa_M => z.2) z)) E e_h38
        · rcases qif_el E with E | E
          · exact qsome_f (Q := fun z => qfr w_X12_may h ((fun z : Int32 × qa_M => z.2) z)) E e_h38
          · exact qsome_f (Q := fun z => qfr w_X12_may h ((fun z : Int32 × qa_M => z.2) z)) E e_h38
theorem fr_X12_divisor_b4 (x2 : Int32) (x3 : Int32) (h : qa_M) {z : ((Int32 × Int32 × qa_M) ⊕ (Int32 × qa_M))} (E : f_X12_divisor_b4 x2 x3 h = some z) : qfr wz h ((Sum.elim (fun z : Int32 × Int32 × qa_M => z.2.2) (fun z : Int32 × qa_M => z.2)) z) := by
  unfold f_X12_divisor_b4 at E
  have e_h : qfr wz h h := qfr_rf
  rcases qif_el E with E | E
  · refine qup_f (Q := fun z => qfr wz h ((Sum.elim (fun z : Int32 × Int32 × qa_M => z.2.2) (fun z : Int32 × qa_M => z.2)) z)) E (fun rz E => ?_)
    exact qsome_f (Q := fun z => qfr wz h ((fun z : Int32 × qa_M => z.2) z)) E e_h
  · obtain ⟨-, E⟩ := qnz_el E
    obtain ⟨v11, -, E⟩ := qbd_el E
    obtain ⟨v14, -, E⟩ := qbd_el E
    obtain ⟨v17, -, E⟩ := qbd_el E
    exact qsome_f (Q := fun z => qfr wz h ((Sum.elim (fun z : Int32 × Int32 × qa_M => z.2.2) (fun z : Int32 × qa_M => z.2)) z)) E e_h
theorem fr_X12_divisor_b4_loop (x2 : Int32) (x3 : Int32) (h : qa_M) {z : (Int32 × qa_M)} (E : f_X12_divisor_b4_loop x2 x3 h = some z) : qfr wz h ((fun z : Int32 × qa_M => z.2) z) :=
  qlp_ind (fun sz : Int32 × Int32 × qa_M => qfr wz (sz.2.2) ((fun z : Int32 × qa_M => z.2) z)) (fun sz E => fr_X12_divisor_b4 sz.1 sz.2.1 sz.2.2 E) (fun sz sz2 E ih => qfr_tr (fr_X12_divisor_b4 sz.1 sz.2.1 sz.2.2 E) ih) (x2, x3, h) E
theorem fr_X12_divisor (x0 : Int32) (x1 : Int32) (h : qa_M) {z : (Int32 × qa_M)} (E : m_X12_divisor x0 x1 h = some z) : qfr wz h ((fun z : Int32 × qa_M => z.2) z) := by
  unfold m_X12_divisor at E
  have e_h : qfr wz h h := qfr_rf
  obtain ⟨v1, -, E⟩ := qbd_el E
  obtain ⟨v3, -, E⟩ := qbd_el E
  exact qfr_tr e_h (qfr_sub qsub_nil (fr_X12_divisor_b4_loop v1 v3 h E))
def w_X12_odds : List (Nat × Nat) := [(119, 49), (119, 50), (119, 51), (119, 52), (149, 0), (150, 0), (151, 0), (152, 0), (153, 0), (154, 0), (155, 0)]
theorem fr_X12_odds (x1 : Int32) (x2 : Int32) (x3 : Int32) (x4 : Int32) (x5 : Int32) (h : qa_M) {z : (Int32 × qa_M)} (E : m_X12_odds x1 x2 x3 x4 x5 h = some z) : qfr w_X12_odds h ((fun z : Int32 × qa_M => z.2) z) := by
  unfold m_X12_odds at E
  have e_h : qfr w_X12_odds h h := qfr_rf
  obtain ⟨c2, h2, E0, E⟩ := qbn_el E
  have e_h2 := qfr_tr e_h (qfr_sub qsub_nil (fr_X12_isSet x1 h E0))
  rcases qif_el E with E | E
  · exact qsome_f (Q := fun z => qfr w_X12_odds h ((fun z : Int32 × qa_M => z.2) z)) E e_h2
  · obtain ⟨c11, h11, E0, E⟩ := qbn_el E
    have e_h11 := qfr_tr e_h2 (qfr_sub qsub_nil (fr_X12_isSquare x2 x3 h2 E0))
    rcases qif_el E with E | E
    · exact qsome_f (Q := fun z => qfr w_X12_odds h ((fun z : Int32 × qa_M => z.2) z)) E e_h11
    · obtain ⟨c20, h20, E0, E⟩ := qbn_el E
      have e_h20 := qfr_tr e_h11 (qfr_sub qsub_nil (fr_X12_isSort x4 h11 E0))
      rcases qif_el E with E | E
      · exact qsome_f (Q := fun z => qfr w_X12_odds h ((fun z : Int32 × qa_M => z.2) z)) E e_h20
      · obtain ⟨c31, h31, E0, E⟩ := qbn_el E
        have e_h31 := qfr_tr e_h20 (qfr_sub qsub_nil (fr_X12_in x5.toInt64 (0 : Int64) (1 : Int64) h20 E0))
        rcases qif_el E with E | E
        · exact qsome_f (Q := fun z => qfr w_X12_odds h ((fun z : Int32 × qa_M => z.2) z)) E e_h31
        · obtain ⟨h49, E0, E⟩ := qbv_el E
          have e_h49 := qfr_tr e_h31 (qfr_sub (qsub_c (List.mem_of_getElem? (i := 0) rfl) (qsub_c (List.mem_of_getElem? (i := 1) rfl) (qsub_c (List.mem_of_getElem? (i := 2) rfl) (qsub_c (List.mem_of_getElem? (i := 3) rfl) (qsub_c (List.mem_of_getElem? (i := 4) rfl) (qsub_c (List.mem_of_getElem? (i := 5) rfl) (qsub_c (List.mem_of_getElem? (i := 6) rfl) (qsub_c (List.mem_of_getElem? (i := 7) rfl) (qsub_c (List.mem_of_getElem? (i := 8) rfl) (qsub_c (List.mem_of_getElem? (i := 9) rfl) (qsub_c (List.mem_of_getElem? (i := 10) rfl) qsub_nil))))))))))) (fr_X12_counts x1 (((6 : Int32) * x3) + x2) x4 h31 E0))
          rcases qif_el E with E | E
          · exact qsome_f (Q := fun z => qfr w_X12_odds h ((fun z : Int32 × qa_M => z.2) z)) E e_h49
          · obtain ⟨c70, h70, E0, E⟩ := qbn_el E
            have e_h70 := qfr_tr e_h49 (qfr_sub qsub_nil (fr_X12_divisor (h49.1 119 51) (h49.1 119 50) h49 E0))
            obtain ⟨v73, -, E⟩ := qbd_el E
            rcases qif_el E with E | E
            · obtain ⟨-, E⟩ := qnz_el E
              exact qsome_f (Q := fun z => qfr w_X12_odds h ((fun z : Int32 × qa_M => z.2) z)) E e_h70
            · obtain ⟨-, E⟩ := qnz_el E
              exact qsome_f (Q := fun z => qfr w_X12_odds h ((fun z : Int32 × qa_M => z.2) z)) E e_h70
theorem fr_X12_laying_b58 (x3 : Int32) (h : qa_M) {z : (Int32 × qa_M)} (E : f_X12_laying_b58 x3 h = some z) : qfr wz h ((fun z : Int32 × qa_M => z.2) z) := by
  unfold f_X12_laying_b58 at E
  have e_h : qfr wz h h := qfr_rf
  obtain ⟨-, E⟩ := qck_el E
  exact qsome_f (Q := fun z => qfr wz h ((fun z : Int32 × qa_M => z.2) z)) E e_h
def wf_X12_laying_b44 : List (Nat × Nat) := [(119, 50), (151, 0)]
theorem fr_X12_laying_b44 (x1 : Int32) (x2 : Int32) (x3 : Int32) (x4 : Int32) (h : qa_M) {z : ((Int32 × Int32 × Int32 × Int32 × qa_M) ⊕ (Int32 × qa_M))} (E : f_X12_laying_b44 x1 x2 x3 x4 h = some z) : qfr wf_X12_laying_b44 h ((Sum.elim (fun z : Int32 × Int32 × Int32 × Int32 × qa_M => z.2.2.2.2) (fun z : Int32 × qa_M => z.2)) z) := by
  unfold f_X12_laying_b44 at E
  have e_h : qfr wf_X12_laying_b44 h h := qfr_rf
  obtain ⟨c46, h46, E0, E⟩ := qbn_el E
  have e_h46 := qfr_tr e_h (qfr_sub (qsub_c (List.mem_of_getElem? (i := 0) rfl) (qsub_c (List.mem_of_getElem? (i := 1) rfl) qsub_nil)) (fr_X12_goesTo x1 h E0))
  rcases qif_el E with E | E
  · refine qup_f (Q := fun z => qfr wf_X12_laying_b44 h ((Sum.elim (fun z : Int32 × Int32 × Int32 × Int32 × qa_M => z.2.2.2.2) (fun z : Int32 × qa_M => z.2)) z)) E (fun rz E => ?_)
    exact qsome_f (Q := fun z => qfr wf_X12_laying_b44 h ((fun z : Int32 × qa_M => z.2) z)) E e_h46
  · rcases qif_el E with E | E
    · refine qup_f (Q := fun z => qfr wf_X12_laying_b44 h ((Sum.elim (fun z : Int32 × Int32 × Int32 × Int32 × qa_M => z.2.2.2.2) (fun z : Int32 × qa_M => z.2)) z)) E (fun rz E => ?_)
      exact qfr_tr e_h46 (qfr_sub qsub_nil (fr_X12_laying_b58 x3 h46 E))
    · obtain ⟨v65, -, E⟩ := qbd_el E
      exact qsome_f (Q := fun z => qfr wf_X12_laying_b44 h ((Sum.elim (fun z : Int32 × Int32 × Int32 × Int32 × qa_M => z.2.2.2.2) (fun z : Int32 × qa_M => z.2)) z)) E e_h46
theorem fr_X12_laying_b44_loop (x1 : Int32) (x2 : Int32) (x3 : Int32) (x4 : Int32) (h : qa_M) {z : (Int32 × qa_M)} (E : f_X12_laying_b44_loop x1 x2 x3 x4 h = some z) : qfr wf_X12_laying_b44 h ((fun z : Int32 × qa_M => z.2) z) :=
  qlp_ind (fun sz : Int32 × Int32 × Int32 × Int32 × qa_M => qfr wf_X12_laying_b44 (sz.2.2.2.2) ((fun z : Int32 × qa_M => z.2) z)) (fun sz E => fr_X12_laying_b44 sz.1 sz.2.1 sz.2.2.1 sz.2.2.2.1 sz.2.2.2.2 E) (fun sz sz2 E ih => qfr_tr (fr_X12_laying_b44 sz.1 sz.2.1 sz.2.2.1 sz.2.2.2.1 sz.2.2.2.2 E) ih) (x1, x2, x3, x4, h) E
def w_X12_laying : List (Nat × Nat) := [(119, 49), (119, 50), (149, 0), (150, 0), (151, 0), (152, 0), (153, 0), (154, 0), (155, 0)]
theorem fr_X12_laying (x1 : Int32) (x2 : Int32) (x3 : Int32) (h : qa_M) {z : (Int32 × qa_M)} (E : m_X12_laying x1 x2 x3 h = some z) : qfr w_X12_laying h ((fun z : Int32 × qa_M => z.2) z) := by
  unfold m_X12_laying at E
  have e_h : qfr w_X12_laying h h := qfr_rf
  obtain ⟨c2, h2, E0, E⟩ := qbn_el E
  have e_h2 := qfr_tr e_h (qfr_sub qsub_nil (fr_X12_isSet x1 h E0))
  rcases qif_el E with E | E
  · exact qsome_f (Q := fun z => qfr w_X12_laying h ((fun z : Int32 × qa_M => z.2) z)) E e_h2
  · rcases qif_el E with E | E
    · exact qsome_f (Q := fun z => qfr w_X12_laying h ((fun z : Int32 × qa_M => z.2) z)) E e_h2
    · obtain ⟨c18, h18, E0, E⟩ := qbn_el E
      have e_h18 := qfr_tr e_h2 (qfr_sub qsub_nil (fr_X12_in x3.toInt64 (0 : Int64) (3 : Int64) h2 E0))
      rcases qif_el E with E | E
      · exact qsome_f (Q := fun z => qfr w_X12_laying h ((fun z : Int32 × qa_M => z.2) z)) E e_h18
      · obtain ⟨h27, E0, E⟩ := qbv_el E
        have e_h27 := qfr_tr e_h18 (qfr_sub (qsub_c (List.mem_of_getElem? (i := 0) rfl) (qsub_c (List.mem_of_getElem? (i := 1) rfl) (qsub_c (List.mem_of_getElem? (i := 2) rfl) (qsub_c (List.mem_of_getElem? (i := 3) rfl) (qsub_c (List.mem_of_getElem? (i := 5) rfl) (qsub_c (List.mem_of_getElem? (i := 6) rfl) (qsub_c (List.mem_of_getElem? (i := 7) rfl) (qsub_c (List.mem_of_getElem? (i := 8) rfl) qsub_nil)))))))) (fr_X12_beginsLayings h18 E0))
        rcases qif_el E with E | E
        · obtain ⟨v42, -, E⟩ := qbd_el E
          exact qfr_tr e_h27 (qfr_sub (qsub_c (List.mem_of_getElem? (i := 1) rfl) (qsub_c (List.mem_of_getElem? (i := 4) rfl) qsub_nil)) (fr_X12_laying_b44_loop x1 x2 x3 v42 h27 E))
        · exact qsome_f (Q := fun z => qfr w_X12_laying h ((fun z : Int32 × qa_M => z.2) z)) E e_h27
theorem fr_X12_rows_b134 (x1 : Int32) (x2 : Int32) (x3 : Int32) (x4 : Int32) (s0 : Int32) (s1 : Int32) (h : qa_M) {z : ((Int32 × Int32 × Int32 × Int32 × Int32 × qa_M) ⊕ (Int32 × qa_M))} (E : f_X12_rows_b134 x1 x2 x3 x4 s0 s1 h = some z) : qfr wz h ((Sum.elim (fun z : Int32 × Int32 × Int32 × Int32 × Int32 × qa_M => z.2.2.2.2.2) (fun z : Int32 × qa_M => z.2)) z) := by
  unfold f_X12_rows_b134 at E
  have e_h : qfr wz h h := qfr_rf
  obtain ⟨v135, -, E⟩ := qbd_el E
  exact qsome_f (Q := fun z => qfr wz h ((Sum.elim (fun z : Int32 × Int32 × Int32 × Int32 × Int32 × qa_M => z.2.2.2.2.2) (fun z : Int32 × qa_M => z.2)) z)) E e_h
theorem fr_X12_rows_b120 (x1 : Int32) (x2 : Int32) (x3 : Int32) (x4 : Int32) (x5 : Int32) (x6 : Int32) (h : qa_M) {z : ((Int32 × Int32 × Int32 × Int32 × Int32 × qa_M) ⊕ (Int32 × qa_M))} (E : f_X12_rows_b120 x1 x2 x3 x4 x5 x6 h = some z) : qfr wz h ((Sum.elim (fun z : Int32 × Int32 × Int32 × Int32 × Int32 × qa_M => z.2.2.2.2.2) (fun z : Int32 × qa_M => z.2)) z) := by
  unfold f_X12_rows_b120 at E
  have e_h : qfr wz h h := qfr_rf
  rcases qif_el E with E | E
  · exact qfr_tr e_h (qfr_sub qsub_nil (fr_X12_rows_b134 x1 x2 x3 x4 x5 (1 : Int32) h E))
  · exact qfr_tr e_h (qfr_sub qsub_nil (fr_X12_rows_b134 x1 x2 x3 x4 x5 (0 : Int32) h E))
theorem fr_X12_rows_b111 (x1 : Int32) (x2 : Int32) (x3 : Int32) (x4 : Int32) (x5 : Int32) (x7 : Int32) (s0 : Int32) (s1 : Int32) (h : qa_M) {z : ((Int32 × Int32 × Int32 × Int32 × Int32 × Int32 × Int32 × qa_M) ⊕ ((Int32 × Int32 × Int32 × Int32 × Int32 × qa_M) ⊕ (Int32 × qa_M)))} (E : f_X12_rows_b111 x1 x2 x3 x4 x5 x7 s0 s1 h = some z) : qfr wz h ((Sum.elim (fun z : Int32 × Int32 × Int32 × Int32 × Int32 × Int32 × Int32 × qa_M => z.2.2.2.2.2.2.2) (Sum.elim (fun z : Int32 × Int32 × Int32 × Int32 × Int32 × qa_M => z.2.2.2.2.2) (fun z : Int32 × qa_M => z.2))) z) := by
  unfold f_X12_rows_b111 at E
  have e_h : qfr wz h h := qfr_rf
  obtain ⟨v112, -, E⟩ := qbd_el E
  obtain ⟨v114, -, E⟩ := qbd_el E
  exact qsome_f (Q := fun z => qfr wz h ((Sum.elim (fun z : Int32 × Int32 × Int32 × Int32 × Int32 × Int32 × Int32 × qa_M => z.2.2.2.2.2.2.2) (Sum.elim (fun z : Int32 × Int32 × Int32 × Int32 × Int32 × qa_M => z.2.2.2.2.2) (fun z : Int32 × qa_M => z.2))) z)) E e_h
theorem fr_X12_rows_b110 (x1 : Int32) (x2 : Int32) (x3 : Int32) (x4 : Int32) (x5 : Int32) (x7 : Int32) (s0 : Int32) (h : qa_M) {z : ((Int32 × Int32 × Int32 × Int32 × Int32 × Int32 × Int32 × qa_M) ⊕ ((Int32 × Int32 × Int32 × Int32 × Int32 × qa_M) ⊕ (Int32 × qa_M)))} (E : f_X12_rows_b110 x1 x2 x3 x4 x5 x7 s0 h = some z) : qfr wz h ((Sum.elim (fun z : Int32 × Int32 × Int32 × Int32 × Int32 × Int32 × Int32 × qa_M => z.2.2.2.2.2.2.2) (Sum.elim (fun z : Int32 × Int32 × Int32 × Int32 × Int32 × qa_M => z.2.2.2.2.2) (fun z : Int32 × qa_M => z.2))) z) := by
  unfold f_X12_rows_b110 at E
  have e_h : qfr wz h h := qfr_rf
  exact qfr_tr e_h (qfr_sub qsub_nil (fr_X12_rows_b111 x1 x2 x3 x4 x5 x7 s0 (0 : Int32) h E))
theorem fr_X12_rows_b70 (x1 : Int32) (x2 : Int32) (x3 : Int32) (x4 : Int32) (x5 : Int32) (x6 : Int32) (x7 : Int32) (h : qa_M) {z : ((Int32 × Int32 × Int32 × Int32 × Int32 × Int32 × Int32 × qa_M) ⊕ ((Int32 × Int32 × Int32 × Int32 × Int32 × qa_M) ⊕ (Int32 × qa_M)))} (E : f_X12_rows_b70 x1 x2 x3 x4 x5 x6 x7 h = some z) : qfr wz h ((Sum.elim (fun z : Int32 × Int32 × Int32 × Int32 × Int32 × Int32 × Int32 × qa_M => z.2.2.2.2.2.2.2) (Sum.elim (fun z : Int32 × Int32 × Int32 × Int32 × Int32 × qa_M => z.2.2.2.2.2) (fun z : Int32 × qa_M => z.2))) z) := by
  unfold f_X12_rows_b70 at E
  have e_h : qfr wz h h := qfr_rf
  rcases qif_el E with E | E
  · refine qup_f (Q := fun z => qfr wz h ((Sum.elim (fun z : Int32 × Int32 × Int32 × Int32 × Int32 × Int32 × Int32 × qa_M => z.2.2.2.2.2.2.2) (Sum.elim (fun z : Int32 × Int32 × Int32 × Int32 × Int32 × qa_M => z.2.2.2.2.2) (fun z : Int32 × qa_M => z.2))) z)) E (fun rz E => ?_)
    exact qfr_tr e_h (qfr_sub qsub_nil (fr_X12_rows_b120 x1 x2 x3 x4 x5 x6 h E))
  · obtain ⟨-, E⟩ := qck_el E
    rcases qif_el E with E | E
    · obtain ⟨-, E⟩ := qck_el E
      rcases qif_el E with E | E
      · exact qfr_tr e_h (qfr_sub qsub_nil (fr_X12_rows_b111 x1 x2 x3 x4 x5 x7 x6 (1 : Int32) h E))
      · exact qfr_tr e_h (qfr_sub qsub_nil (fr_X12_rows_b110 x1 x2 x3 x4 x5 x7 x6 h E))
    · exact qfr_tr e_h (qfr_sub qsub_nil (fr_X12_rows_b110 x1 x2 x3 x4 x5 x7 x6 h E))
theorem fr_X12_rows_b70_loop (x1 : Int32) (x2 : Int32) (x3 : Int32) (x4 : Int32) (x5 : Int32) (x6 : Int32) (x7 : Int32) (h : qa_M) {z : ((Int32 × Int32 × Int32 × Int32 × Int32 × qa_M) ⊕ (Int32 × qa_M))} (E : f_X12_rows_b70_loop x1 x2 x3 x4 x5 x6 x7 h = some z) : qfr wz h ((Sum.elim (fun z : Int32 × Int32 × Int32 × Int32 × Int32 × qa_M => z.2.2.2.2.2) (fun z : Int32 × qa_M => z.2)) z) :=
  qlp_ind (fun sz : Int32 × Int32 × Int32 × Int32 × Int32 × Int32 × Int32 × qa_M => qfr wz (sz.2.2.2.2.2.2.2) ((Sum.elim (fun z : Int32 × Int32 × Int32 × Int32 × Int32 × qa_M => z.2.2.2.2.2) (fun z : Int32 × qa_M => z.2)) z)) (fun sz E => fr_X12_rows_b70 sz.1 sz.2.1 sz.2.2.1 sz.2.2.2.1 sz.2.2.2.2.1 sz.2.2.2.2.2.1 sz.2.2.2.2.2.2.1 sz.2.2.2.2.2.2.2 E) (fun sz sz2 E ih => qfr_tr (fr_X12_rows_b70 sz.1 sz.2.1 sz.2.2.1 sz.2.2.2.1 sz.2.2.2.2.1 sz.2.2.2.2.2.1 sz.2.2.2.2.2.2.1 sz.2.2.2.2.2.2.2 E) ih) (x1, x2, x3, x4, x5, x6, x7, h) E
def wf_X12_rows_b56 : List (Nat × Nat) := [(119, 50), (151, 0)]
theorem fr_X12_rows_b56 (x1 : Int32) (x2 : Int32) (x3 : Int32) (x4 : Int32) (x5 : Int32) (h : qa_M) {z : ((Int32 × Int32 × Int32 × Int32 × Int32 × qa_M) ⊕ (Int32 × qa_M))} (E : f_X12_rows_b56 x1 x2 x3 x4 x5 h = some z) : qfr wf_X12_rows_b56 h ((Sum.elim (fun z : Int32 × Int32 × Int32 × Int32 × Int32 × qa_M => z.2.2.2.2.2) (fun z : Int32 × qa_M => z.2)) z) := by
  unfold f_X12_rows_b56 at E
  have e_h : qfr wf_X12_rows_b56 h h := qfr_rf
  obtain ⟨c58, h58, E0, E⟩ := qbn_el E
  have e_h58 := qfr_tr e_h (qfr_sub (qsub_c (List.mem_of_getElem? (i := 0) rfl) (qsub_c (List.mem_of_getElem? (i := 1) rfl) qsub_nil)) (fr_X12_goesTo x1 h E0))
  rcases qif_el E with E | E
  · refine qup_f (Q := fun z => qfr wf_X12_rows_b56 h ((Sum.elim (fun z : Int32 × Int32 × Int32 × Int32 × Int32 × qa_M => z.2.2.2.2.2) (fun z : Int32 × qa_M => z.2)) z)) E (fun rz E => ?_)
    exact qsome_f (Q := fun z => qfr wf_X12_rows_b56 h ((fun z : Int32 × qa_M => z.2) z)) E e_h58
  · obtain ⟨v65, -, E⟩ := qbd_el E
    obtain ⟨v68, -, E⟩ := qbd_el E
    exact qfr_tr e_h58 (qfr_sub qsub_nil (fr_X12_rows_b70_loop x1 x2 x3 x4 x5 v65 v68 h58 E))
theorem fr_X12_rows_b56_loop (x1 : Int32) (x2 : Int32) (x3 : Int32) (x4 : Int32) (x5 : Int32) (h : qa_M) {z : (Int32 × qa_M)} (E : f_X12_rows_b56_loop x1 x2 x3 x4 x5 h = some z) : qfr wf_X12_rows_b56 h ((fun z : Int32 × qa_M => z.2) z) :=
  qlp_ind (fun sz : Int32 × Int32 × Int32 × Int32 × Int32 × qa_M => qfr wf_X12_rows_b56 (sz.2.2.2.2.2) ((fun z : Int32 × qa_M => z.2) z)) (fun sz E => fr_X12_rows_b56 sz.1 sz.2.1 sz.2.2.1 sz.2.2.2.1 sz.2.2.2.2.1 sz.2.2.2.2.2 E) (fun sz sz2 E ih => qfr_tr (fr_X12_rows_b56 sz.1 sz.2.1 sz.2.2.1 sz.2.2.2.1 sz.2.2.2.2.1 sz.2.2.2.2.2 E) ih) (x1, x2, x3, x4, x5, h) E
def w_X12_rows : List (Nat × Nat) := [(119, 49), (119, 50), (149, 0), (150, 0), (151, 0), (152, 0), (153, 0), (154, 0), (155, 0)]
theorem fr_X12_rows (x1 : Int32) (x2 : Int32) (x3 : Int32) (x4 : Int32) (h : qa_M) {z : (Int32 × qa_M)} (E : m_X12_rows x1 x2 x3 x4 h = some z) : qfr w_X12_rows h ((fun z : Int32 × qa_M => z.2) z) := by
  unfold m_X12_rows at E
  have e_h : qfr w_X12_rows h h := qfr_rf
  obtain ⟨c2, h2, E0, E⟩ := qbn_el E
  have e_h2 := qfr_tr e_h (qfr_sub qsub_nil (fr_X12_isSet x1 h E0))
  rcases qif_el E with E | E
  · exact qsome_f (Q := fun z => qfr w_X12_rows h ((fun z : Int32 × qa_M => z.2) z)) E e_h2
  · obtain ⟨c10, h10, E0, E⟩ := qbn_el E
    have e_h10 := qfr_tr e_h2 (qfr_sub qsub_nil (fr_X12_isSort x2 h2 E0))
    rcases qif_el E with E | E
    · exact qsome_f (Q := fun z => qfr w_X12_rows h ((fun z : Int32 × qa_M => z.2) z)) E e_h10
    · obtain ⟨-, E⟩ := qck_el E
      obtain ⟨c28, h28, E0, E⟩ := qbn_el E
      have e_h28 := qfr_tr e_h10 (qfr_sub qsub_nil (fr_X12_in x3.toInt64 (0 : Int64) (((h10.1 120 (1 : Int32).toNatClampNeg) - (1 : Int32)).toInt64) h10 E0))
      rcases qif_el E with E | E
      · exact qsome_f (Q := fun z => qfr w_X12_rows h ((fun z : Int32 × qa_M => z.2) z)) E e_h28
      · obtain ⟨c41, h41, E0, E⟩ := qbn_el E
        have e_h41 := qfr_tr e_h28 (qfr_sub qsub_nil (fr_X12_in x4.toInt64 (0 : Int64) (4 : Int64) h28 E0))
        rcases qif_el E with E | E
        · exact qsome_f (Q := fun z => qfr w_X12_rows h ((fun z : Int32 × qa_M => z.2) z)) E e_h41
        · obtain ⟨h50, E0, E⟩ := qbv_el E
          have e_h50 := qfr_tr e_h41 (qfr_sub (qsub_c (List.mem_of_getElem? (i := 0) rfl) (qsub_c (List.mem_of_getElem? (i := 1) rfl) (qsub_c (List.mem_of_getElem? (i := 2) rfl) (qsub_c (List.mem_of_getElem? (i := 3) rfl) (qsub_c (List.mem_of_getElem? (i := 5) rfl) (qsub_c (List.mem_of_getElem? (i := 6) rfl) (qsub_c (List.mem_of_getElem? (i := 7) rfl) (qsub_c (List.mem_of_getElem? (i := 8) rfl) qsub_nil)))))))) (fr_X12_beginsLayings h41 E0))
          obtain ⟨v54, -, E⟩ := qbd_el E
          exact qfr_tr e_h50 (qfr_sub (qsub_c (List.mem_of_getElem? (i := 1) rfl) (qsub_c (List.mem_of_getElem? (i := 4) rfl) qsub_nil)) (fr_X12_rows_b56_loop x1 x2 x3 x4 v54 h50 E))
theorem fr_X12_fillsFitting_b105 (x2 : Int32) (h : qa_M) {z : ((Int32 × qa_M) ⊕ qa_M)} (E : f_X12_fillsFitting_b105 x2 h = some z) : qfr wz h ((Sum.elim (fun z : Int32 × qa_M => z.2) (fun z : qa_M => z)) z) := by
  unfold f_X12_fillsFitting_b105 at E
  have e_h : qfr wz h h := qfr_rf
  obtain ⟨v105, -, E⟩ := qbd_el E
  exact qsome_f (Q := fun z => qfr wz h ((Sum.elim (fun z : Int32 × qa_M => z.2) (fun z : qa_M => z)) z)) E e_h
def wf_X12_fillsFitting_b97 : List (Nat × Nat) := [(157, 0)]
theorem fr_X12_fillsFitting_b97 (x2 : Int32) (x3 : Int32) (s1 : Int32) (s2 : Int32) (s3 : Int32) (h : qa_M) {z : ((Int32 × Int32 × qa_M) ⊕ ((Int32 × qa_M) ⊕ qa_M))} (E : f_X12_fillsFitting_b97 x2 x3 s1 s2 s3 h = some z) : qfr wf_X12_fillsFitting_b97 h ((Sum.elim (fun z : Int32 × Int32 × qa_M => z.2.2) (Sum.elim (fun z : Int32 × qa_M => z.2) (fun z : qa_M => z))) z) := by
  unfold f_X12_fillsFitting_b97 at E
  have e_h : qfr wf_X12_fillsFitting_b97 h h := qfr_rf
  obtain ⟨-, E⟩ := qck_el E
  obtain ⟨h98, q_h98, E⟩ := qbd_el E
  have e_h98 := qfr_I0 q_h98 (List.mem_of_getElem? (i := 0) rfl) e_h
  obtain ⟨v99, -, E⟩ := qbd_el E
  exact qsome_f (Q := fun z => qfr wf_X12_fillsFitting_b97 h ((Sum.elim (fun z : Int32 × Int32 × qa_M => z.2.2) (Sum.elim (fun z : Int32 × qa_M => z.2) (fun z : qa_M => z))) z)) E e_h98
def wf_X12_fillsFitting_b60 : List (Nat × Nat) := [(157, 0)]
theorem fr_X12_fillsFitting_b60 (x2 : Int32) (x3 : Int32) (h : qa_M) {z : ((Int32 × Int32 × qa_M) ⊕ ((Int32 × qa_M) ⊕ qa_M))} (E : f_X12_fillsFitting_b60 x2 x3 h = some z) : qfr wf_X12_fillsFitting_b60 h ((Sum.elim (fun z : Int32 × Int32 × qa_M => z.2.2) (Sum.elim (fun z : Int32 × qa_M => z.2) (fun z : qa_M => z))) z) := by
  unfold f_X12_fillsFitting_b60 at E
  have e_h : qfr wf_X12_fillsFitting_b60 h h := qfr_rf
  rcases qif_el E with E | E
  · refine qup_f (Q := fun z => qfr wf_X12_fillsFitting_b60 h ((Sum.elim (fun z : Int32 × Int32 × qa_M => z.2.2) (Sum.elim (fun z : Int32 × qa_M => z.2) (fun z : qa_M => z))) z)) E (fun rz E => ?_)
    exact qfr_tr e_h (qfr_sub qsub_nil (fr_X12_fillsFitting_b105 x2 h E))
  · obtain ⟨-, E⟩ := qck_el E
    obtain ⟨c77, h77, E0, E⟩ := qbn_el E
    have e_h77 := qfr_tr e_h (qfr_sub qsub_nil (fr_X12_has x3.toInt64 x2 h E0))
    rcases qif_el E with E | E
    · obtain ⟨-, E⟩ := qck_el E
      exact qfr_tr e_h77 (qfr_sub (qsub_c (List.mem_of_getElem? (i := 0) rfl) qsub_nil) (fr_X12_fillsFitting_b97 x2 x3 x3 (h.1 157 x3.toNatClampNeg) (h77.1 157 (x3 ||| ((1 : Int32) <<< (x2 &&& 31))).toNatClampNeg) h77 E))
    · exact qfr_tr e_h77 (qfr_sub (qsub_c (List.mem_of_getElem? (i := 0) rfl) qsub_nil) (fr_X12_fillsFitting_b97 x2 x3 x3 (h.1 157 x3.toNatClampNeg) (0 : Int32) h77 E))
theorem fr_X12_fillsFitting_b60_loop (x2 : Int32) (x3 : Int32) (h : qa_M) {z : ((Int32 × qa_M) ⊕ qa_M)} (E : f_X12_fillsFitting_b60_loop x2 x3 h = some z) : qfr wf_X12_fillsFitting_b60 h ((Sum.elim (fun z : Int32 × qa_M => z.2) (fun z : qa_M => z)) z) :=
  qlp_ind (fun sz : Int32 × Int32 × qa_M => qfr wf_X12_fillsFitting_b60 (sz.2.2) ((Sum.elim (fun z : Int32 × qa_M => z.2) (fun z : qa_M => z)) z)) (fun sz E => fr_X12_fillsFitting_b60 sz.1 sz.2.1 sz.2.2 E) (fun sz sz2 E ih => qfr_tr (fr_X12_fillsFitting_b60 sz.1 sz.2.1 sz.2.2 E) ih) (x2, x3, h) E
def wf_X12_fillsFitting_b52 : List (Nat × Nat) := [(157, 0)]
theorem fr_X12_fillsFitting_b52 (x2 : Int32) (h : qa_M) {z : ((Int32 × qa_M) ⊕ qa_M)} (E : f_X12_fillsFitting_b52 x2 h = some z) : qfr wf_X12_fillsFitting_b52 h ((Sum.elim (fun z : Int32 × qa_M => z.2) (fun z : qa_M => z)) z) := by
  unfold f_X12_fillsFitting_b52 at E
  have e_h : qfr wf_X12_fillsFitting_b52 h h := qfr_rf
  rcases qif_el E with E | E
  · refine qup_f (Q := fun z => qfr wf_X12_fillsFitting_b52 h ((Sum.elim (fun z : Int32 × qa_M => z.2) (fun z : qa_M => z)) z)) E (fun rz E => ?_)
    exact qsome_f (Q := fun z => qfr wf_X12_fillsFitting_b52 h ((fun z : qa_M => z) z)) E e_h
  · obtain ⟨v59, -, E⟩ := qbd_el E
    exact qfr_tr e_h (qfr_sub (qsub_c (List.mem_of_getElem? (i := 0) rfl) qsub_nil) (fr_X12_fillsFitting_b60_loop x2 v59 h E))
theorem fr_X12_fillsFitting_b52_loop (x2 : Int32) (h : qa_M) {z : qa_M} (E : f_X12_fillsFitting_b52_loop x2 h = some z) : qfr wf_X12_fillsFitting_b52 h ((fun z : qa_M => z) z) :=
  qlp_ind (fun sz : Int32 × qa_M => qfr wf_X12_fillsFitting_b52 (sz.2) ((fun z : qa_M => z) z)) (fun sz E => fr_X12_fillsFitting_b52 sz.1 sz.2 E) (fun sz sz2 E ih => qfr_tr (fr_X12_fillsFitting_b52 sz.1 sz.2 E) ih) (x2, h) E
def wf_X12_fillsFitting_b50 : List (Nat × Nat) := [(157, 0)]
theorem fr_X12_fillsFitting_b50 (h : qa_M) {z : qa_M} (E : f_X12_fillsFitting_b50 h = some z) : qfr wf_X12_fillsFitting_b50 h ((fun z : qa_M => z) z) := by
  unfold f_X12_fillsFitting_b50 at E
  have e_h : qfr wf_X12_fillsFitting_b50 h h := qfr_rf
  obtain ⟨v51, -, E⟩ := qbd_el E
  exact qfr_tr e_h (qfr_sub (qsub_c (List.mem_of_getElem? (i := 0) rfl) qsub_nil) (fr_X12_fillsFitting_b52_loop v51 h E))
def wf_X12_fillsFitting_b26 : List (Nat × Nat) := [(119, 50), (151, 0), (157, 0)]
theorem fr_X12_fillsFitting_b26 (x1 : Int32) (h : qa_M) {z : ((Int32 × qa_M) ⊕ qa_M)} (E : f_X12_fillsFitting_b26 x1 h = some z) : qfr wf_X12_fillsFitting_b26 h ((Sum.elim (fun z : Int32 × qa_M => z.2) (fun z : qa_M => z)) z) := by
  unfold f_X12_fillsFitting_b26 at E
  have e_h : qfr wf_X12_fillsFitting_b26 h h := qfr_rf
  obtain ⟨c27, h27, E0, E⟩ := qbn_el E
  have e_h27 := qfr_tr e_h (qfr_sub (qsub_c (List.mem_of_getElem? (i := 0) rfl) (qsub_c (List.mem_of_getElem? (i := 1) rfl) qsub_nil)) (fr_X12_laysOn h E0))
  rcases qif_el E with E | E
  · refine qup_f (Q := fun z => qfr wf_X12_fillsFitting_b26 h ((Sum.elim (fun z : Int32 × qa_M => z.2) (fun z : qa_M => z)) z)) E (fun rz E => ?_)
    exact qfr_tr e_h27 (qfr_sub (qsub_c (List.mem_of_getElem? (i := 2) rfl) qsub_nil) (fr_X12_fillsFitting_b50 h27 E))
  · obtain ⟨c39, h39, E0, E⟩ := qbn_el E
    have e_h39 := qfr_tr e_h27 (qfr_sub qsub_nil (fr_X12_fitsOf x1 h27 E0))
    obtain ⟨-, E⟩ := qck_el E
    obtain ⟨-, E⟩ := qck_el E
    obtain ⟨h46, q_h46, E⟩ := qbd_el E
    have e_h46 := qfr_I0 q_h46 (List.mem_of_getElem? (i := 2) rfl) e_h39
    exact qsome_f (Q := fun z => qfr wf_X12_fillsFitting_b26 h ((Sum.elim (fun z : Int32 × qa_M => z.2) (fun z : qa_M => z)) z)) E e_h46
theorem fr_X12_fillsFitting_b26_loop (x1 : Int32) (h : qa_M) {z : qa_M} (E : f_X12_fillsFitting_b26_loop x1 h = some z) : qfr wf_X12_fillsFitting_b26 h ((fun z : qa_M => z) z) :=
  qlp_ind (fun sz : Int32 × qa_M => qfr wf_X12_fillsFitting_b26 (sz.2) ((fun z : qa_M => z) z)) (fun sz E => fr_X12_fillsFitting_b26 sz.1 sz.2 E) (fun sz sz2 E ih => qfr_tr (fr_X12_fillsFitting_b26 sz.1 sz.2 E) ih) (x1, h) E
def wf_X12_fillsFitting_b22 : List (Nat × Nat) := [(119, 49), (119, 50), (149, 0), (150, 0), (151, 0), (152, 0), (153, 0), (154, 0), (155, 0), (157, 0)]
theorem fr_X12_fillsFitting_b22 (x1 : Int32) (h : qa_M) {z : qa_M} (E : f_X12_fillsFitting_b22 x1 h = some z) : qfr wf_X12_fillsFitting_b22 h ((fun z : qa_M => z) z) := by
  unfold f_X12_fillsFitting_b22 at E
  have e_h : qfr wf_X12_fillsFitting_b22 h h := qfr_rf
  obtain ⟨h23, E0, E⟩ := qbv_el E
  have e_h23 := qfr_tr e_h (qfr_sub (qsub_c (List.mem_of_getElem? (i := 0) rfl) (qsub_c (List.mem_of_getElem? (i := 1) rfl) (qsub_c (List.mem_of_getElem? (i := 2) rfl) (qsub_c (List.mem_of_getElem? (i := 3) rfl) (qsub_c (List.mem_of_getElem? (i := 5) rfl) (qsub_c (List.mem_of_getElem? (i := 6) rfl) (qsub_c (List.mem_of_getElem? (i := 7) rfl) (qsub_c (List.mem_of_getElem? (i := 8) rfl) qsub_nil)))))))) (fr_X12_beginsLayings h E0))
  exact qfr_tr e_h23 (qfr_sub (qsub_c (List.mem_of_getElem? (i := 1) rfl) (qsub_c (List.mem_of_getElem? (i := 4) rfl) (qsub_c (List.mem_of_getElem? (i := 9) rfl) qsub_nil))) (fr_X12_fillsFitting_b26_loop x1 h23 E))
def wf_X12_fillsFitting_b2 : List (Nat × Nat) := [(119, 49), (119, 50), (149, 0), (150, 0), (151, 0), (152, 0), (153, 0), (154, 0), (155, 0), (157, 0)]
theorem fr_X12_fillsFitting_b2 (x1 : Int32) (x2 : Int32) (h : qa_M) {z : ((Int32 × Int32 × qa_M) ⊕ qa_M)} (E : f_X12_fillsFitting_b2 x1 x2 h = some z) : qfr wf_X12_fillsFitting_b2 h ((Sum.elim (fun z : Int32 × Int32 × qa_M => z.2.2) (fun z : qa_M => z)) z) := by
  unfold f_X12_fillsFitting_b2 at E
  have e_h : qfr wf_X12_fillsFitting_b2 h h := qfr_rf
  rcases qif_el E with E | E
  · refine qup_f (Q := fun z => qfr wf_X12_fillsFitting_b2 h ((Sum.elim (fun z : Int32 × Int32 × qa_M => z.2.2) (fun z : qa_M => z)) z)) E (fun rz E => ?_)
    exact qfr_tr e_h (qfr_sub (qsub_c (List.mem_of_getElem? (i := 0) rfl) (qsub_c (List.mem_of_getElem? (i := 1) rfl) (qsub_c (List.mem_of_getElem? (i := 2) rfl) (qsub_c (List.mem_of_getElem? (i := 3) rfl) (qsub_c (List.mem_of_getElem? (i := 4) rfl) (qsub_c (List.mem_of_getElem? (i := 5) rfl) (qsub_c (List.mem_of_getElem? (i := 6) rfl) (qsub_c (List.mem_of_getElem? (i := 7) rfl) (qsub_c (List.mem_of_getElem? (i := 8) rfl) (qsub_c (List.mem_of_getElem? (i := 9) rfl) qsub_nil)))))))))) (fr_X12_fillsFitting_b22 x1 h E))
  · obtain ⟨-, E⟩ := qck_el E
    obtain ⟨h15, q_h15, E⟩ := qbd_el E
    have e_h15 := qfr_I0 q_h15 (List.mem_of_getElem? (i := 9) rfl) e_h
    obtain ⟨v16, -, E⟩ := qbd_el E
    exact qsome_f (Q := fun z => qfr wf_X12_fillsFitting_b2 h ((Sum.elim (fun z : Int32 × Int32 × qa_M => z.2.2) (fun z : qa_M => z)) z)) E e_h15
theorem fr_X12_fillsFitting_b2_loop (x1 : Int32) (x2 : Int32) (h : qa_M) {z : qa_M} (E : f_X12_fillsFitting_b2_loop x1 x2 h = some z) : qfr wf_X12_fillsFitting_b2 h ((fun z : qa_M => z) z) :=
  qlp_ind (fun sz : Int32 × Int32 × qa_M => qfr wf_X12_fillsFitting_b2 (sz.2.2) ((fun z : qa_M => z) z)) (fun sz E => fr_X12_fillsFitting_b2 sz.1 sz.2.1 sz.2.2 E) (fun sz sz2 E ih => qfr_tr (fr_X12_fillsFitting_b2 sz.1 sz.2.1 sz.2.2 E) ih) (x1, x2, h) E
def w_X12_fillsFitting : List (Nat × Nat) := [(119, 49), (119, 50), (149, 0), (150, 0), (151, 0), (152, 0), (153, 0), (154, 0), (155, 0), (157, 0)]
theorem fr_X12_fillsFitting (x1 : Int32) (h : qa_M) {z : qa_M} (E : m_X12_fillsFitting x1 h = some z) : qfr w_X12_fillsFitting h ((fun z : qa_M => z) z) := by
  unfold m_X12_fillsFitting at E
  have e_h : qfr w_X12_fillsFitting h h := qfr_rf
  obtain ⟨v1, -, E⟩ := qbd_el E
  exact qfr_tr e_h (qfr_sub (qsub_c (List.mem_of_getElem? (i := 0) rfl) (qsub_c (List.mem_of_getElem? (i := 1) rfl) (qsub_c (List.mem_of_getElem? (i := 2) rfl) (qsub_c (List.mem_of_getElem? (i := 3) rfl) (qsub_c (List.mem_of_getElem? (i := 4) rfl) (qsub_c (List.mem_of_getElem? (i := 5) rfl) (qsub_c (List.mem_of_getElem? (i := 6) rfl) (qsub_c (List.mem_of_getElem? (i := 7) rfl) (qsub_c (List.mem_of_getElem? (i := 8) rfl) (qsub_c (List.mem_of_getElem? (i := 9) rfl) qsub_nil)))))))))) (fr_X12_fillsFitting_b2_loop x1 v1 h E))
def w_X12_news : List (Nat × Nat) := [(119, 49), (119, 50), (149, 0), (150, 0), (151, 0), (152, 0), (153, 0), (154, 0), (155, 0), (157, 0)]
theorem fr_X12_news (x1 : Int32) (x2 : Int32) (h : qa_M) {z : (Int32 × qa_M)} (E : m_X12_news x1 x2 h = some z) : qfr w_X12_news h ((fun z : Int32 × qa_M => z.2) z) := by
  unfold m_X12_news at E
  have e_h : qfr w_X12_news h h := qfr_rf
  obtain ⟨c2, h2, E0, E⟩ := qbn_el E
  have e_h2 := qfr_tr e_h (qfr_sub qsub_nil (fr_X12_isSet x1 h E0))
  rcases qif_el E with E | E
  · exact qsome_f (Q := fun z => qfr w_X12_news h ((fun z : Int32 × qa_M => z.2) z)) E e_h2
  · obtain ⟨-, E⟩ := qck_el E
    obtain ⟨c20, h20, E0, E⟩ := qbn_el E
    have e_h20 := qfr_tr e_h2 (qfr_sub qsub_nil (fr_X12_in x2.toInt64 (0 : Int64) (((h2.1 120 (5 : Int32).toNatClampNeg) - (1 : Int32)).toInt64) h2 E0))
    rcases qif_el E with E | E
    · exact qsome_f (Q := fun z => qfr w_X12_news h ((fun z : Int32 × qa_M => z.2) z)) E e_h20
    · obtain ⟨c29, h29, E0, E⟩ := qbn_el E
      have e_h29 := qfr_tr e_h20 (qfr_sub qsub_nil (fr_X12_has x1.toInt64 x2 h20 E0))
      rcases qif_el E with E | E
      · exact qsome_f (Q := fun z => qfr w_X12_news h ((fun z : Int32 × qa_M => z.2) z)) E e_h29
      · obtain ⟨h39, E0, E⟩ := qbv_el E
        have e_h39 := qfr_tr e_h29 (qfr_sub (qsub_c (List.mem_of_getElem? (i := 0) rfl) (qsub_c (List.mem_of_getElem? (i := 1) rfl) (qsub_c (List.mem_of_getElem? (i := 2) rfl) (qsub_c (List.mem_of_getElem? (i := 3) rfl) (qsub_c (List.mem_of_getElem? (i := 4) rfl) (qsub_c (List.mem_of_getElem? (i := 5) rfl) (qsub_c (List.mem_of_getElem? (i := 6) rfl) (qsub_c (List.mem_of_getElem? (i := 7) rfl) (qsub_c (List.mem_of_getElem? (i := 8) rfl) (qsub_c (List.mem_of_getElem? (i := 9) rfl) qsub_nil)))))))))) (fr_X12_fillsFitting x1 h29 E0))
        obtain ⟨-, E⟩ := qck_el E
        obtain ⟨-, E⟩ := qck_el E
        rcases qif_el E with E | E
        · exact qsome_f (Q := fun z => qfr w_X12_news h ((fun z : Int32 × qa_M => z.2) z)) E e_h39
        · exact qsome_f (Q := fun z => qfr w_X12_news h ((fun z : Int32 × qa_M => z.2) z)) E e_h39
def w_X12_quarrel : List (Nat × Nat) := [(119, 49), (119, 50), (149, 0), (150, 0), (151, 0), (152, 0), (153, 0), (154, 0), (155, 0), (157, 0)]
theorem fr_X12_quarrel (x1 : Int32) (x2 : Int32) (h : qa_M) {z : (Int32 × qa_M)} (E : m_X12_quarrel x1 x2 h = some z) : qfr w_X12_quarrel h ((fun z : Int32 × qa_M => z.2) z) := by
  unfold m_X12_quarrel at E
  have e_h : qfr w_X12_quarrel h h := qfr_rf
  obtain ⟨-, E⟩ := qck_el E
  obtain ⟨c12, h12, E0, E⟩ := qbn_el E
  have e_h12 := qfr_tr e_h (qfr_sub qsub_nil (fr_X12_in x1.toInt64 (0 : Int64) (((h.1 120 (5 : Int32).toNatClampNeg) - (1 : Int32)).toInt64) h E0))
  rcases qif_el E with E | E
  · exact qsome_f (Q := fun z => qfr w_X12_quarrel h ((fun z : Int32 × qa_M => z.2) z)) E e_h12
  · obtain ⟨-, E⟩ := qck_el E
    obtain ⟨c30, h30, E0, E⟩ := qbn_el E
    have e_h30 := qfr_tr e_h12 (qfr_sub qsub_nil (fr_X12_in x2.toInt64 (0 : Int64) (((h12.1 120 (5 : Int32).toNatClampNeg) - (1 : Int32)).toInt64) h12 E0))
    rcases qif_el E with E | E
    · exact qsome_f (Q := fun z => qfr w_X12_quarrel h ((fun z : Int32 × qa_M => z.2) z)) E e_h30
    · rcases qif_el E with E | E
      · exact qsome_f (Q := fun z => qfr w_X12_quarrel h ((fun z : Int32 × qa_M => z.2) z)) E e_h30
      · obtain ⟨v50, -, E⟩ := qbd_el E
        obtain ⟨h53, E0, E⟩ := qbv_el E
        have e_h53 := qfr_tr e_h30 (qfr_sub (qsub_c (List.mem_of_getElem? (i := 0) rfl) (qsub_c (List.mem_of_getElem? (i := 1) rfl) (qsub_c (List.mem_of_getElem? (i := 2) rfl) (qsub_c (List.mem_of_getElem? (i := 3) rfl) (qsub_c (List.mem_of_getElem? (i := 4) rfl) (qsub_c (List.mem_of_getElem? (i := 5) rfl) (qsub_c (List.mem_of_getElem? (i := 6) rfl) (qsub_c (List.mem_of_getElem? (i := 7) rfl) (qsub_c (List.mem_of_getElem? (i := 8) rfl) (qsub_c (List.mem_of_getElem? (i := 9) rfl) qsub_nil)))))))))) (fr_X12_fillsFitting v50 h30 E0))
        obtain ⟨-, E⟩ := qck_el E
        rcases qif_el E with E | E
        · exact qsome_f (Q := fun z => qfr w_X12_quarrel h ((fun z : Int32 × qa_M => z.2) z)) E e_h53
        · obtain ⟨-, E⟩ := qck_el E
          rcases qif_el E with E | E
          · exact qsome_f (Q := fun z => qfr w_X12_quarrel h ((fun z : Int32 × qa_M => z.2) z)) E e_h53
          · obtain ⟨-, E⟩ := qck_el E
            rcases qif_el E with E | E
            · exact qsome_f (Q := fun z => qfr w_X12_quarrel h ((fun z : Int32 × qa_M => z.2) z)) E e_h53
            · exact qsome_f (Q := fun z => qfr w_X12_quarrel h ((fun z : Int32 × qa_M => z.2) z)) E e_h53
theorem fr_X12_bits_b4 (x1 : Int32) (x2 : Int32) (h : qa_M) {z : ((Int32 × Int32 × qa_M) ⊕ (Int32 × qa_M))} (E : f_X12_bits_b4 x1 x2 h = some z) : qfr wz h ((Sum.elim (fun z : Int32 × Int32 × qa_M => z.2.2) (fun z : Int32 × qa_M => z.2)) z) := by
  unfold f_X12_bits_b4 at E
  have e_h : qfr wz h h := qfr_rf
  rcases qif_el E with E | E
  · refine qup_f (Q := fun z => qfr wz h ((Sum.elim (fun z : Int32 × Int32 × qa_M => z.2.2) (fun z : Int32 × qa_M => z.2)) z)) E (fun rz E => ?_)
    exact qsome_f (Q := fun z => qfr wz h ((fun z : Int32 × qa_M => z.2) z)) E e_h
  · obtain ⟨v8, -, E⟩ := qbd_el E
    obtain ⟨v16, -, E⟩ := qbd_el E
    exact qsome_f (Q := fun z => qfr wz h ((Sum.elim (fun z : Int32 × Int32 × qa_M => z.2.2) (fun z : Int32 × qa_M => z.2)) z)) E e_h
theorem fr_X12_bits_b4_loop (x1 : Int32) (x2 : Int32) (h : qa_M) {z : (Int32 × qa_M)} (E : f_X12_bits_b4_loop x1 x2 h = some z) : qfr wz h ((fun z : Int32 × qa_M => z.2) z) :=
  qlp_ind (fun sz : Int32 × Int32 × qa_M => qfr wz (sz.2.2) ((fun z : Int32 × qa_M => z.2) z)) (fun sz E => fr_X12_bits_b4 sz.1 sz.2.1 sz.2.2 E) (fun sz sz2 E ih => qfr_tr (fr_X12_bits_b4 sz.1 sz.2.1 sz.2.2 E) ih) (x1, x2, h) E
theorem fr_X12_bits (x0 : Int32) (h : qa_M) {z : (Int32 × qa_M)} (E : m_X12_bits x0 h = some z) : qfr wz h ((fun z : Int32 × qa_M => z.2) z) := by
  unfold m_X12_bits at E
  have e_h : qfr wz h h := qfr_rf
  obtain ⟨v1, -, E⟩ := qbd_el E
  obtain ⟨v3, -, E⟩ := qbd_el E
  exact qfr_tr e_h (qfr_sub qsub_nil (fr_X12_bits_b4_loop v1 v3 h E))
theorem fr_X12_least_b93 (x1 : Int32) (x3 : Int32) (s0 : Int32) (h : qa_M) {z : ((Int32 × Int32 × Int32 × qa_M) ⊕ (Int32 × qa_M))} (E : f_X12_least_b93 x1 x3 s0 h = some z) : qfr wz h ((Sum.elim (fun z : Int32 × Int32 × Int32 × qa_M => z.2.2.2) (fun z : Int32 × qa_M => z.2)) z) := by
  unfold f_X12_least_b93 at E
  have e_h : qfr wz h h := qfr_rf
  obtain ⟨v93, -, E⟩ := qbd_el E
  obtain ⟨v94, -, E⟩ := qbd_el E
  exact qsome_f (Q := fun z => qfr wz h ((Sum.elim (fun z : Int32 × Int32 × Int32 × qa_M => z.2.2.2) (fun z : Int32 × qa_M => z.2)) z)) E e_h
theorem fr_X12_least_b92 (x1 : Int32) (x2 : Int32) (x3 : Int32) (h : qa_M) {z : ((Int32 × Int32 × Int32 × qa_M) ⊕ (Int32 × qa_M))} (E : f_X12_least_b92 x1 x2 x3 h = some z) : qfr wz h ((Sum.elim (fun z : Int32 × Int32 × Int32 × qa_M => z.2.2.2) (fun z : Int32 × qa_M => z.2)) z) := by
  unfold f_X12_least_b92 at E
  have e_h : qfr wz h h := qfr_rf
  exact qfr_tr e_h (qfr_sub qsub_nil (fr_X12_least_b93 x1 x3 x2 h E))
theorem fr_X12_least_b88 (x1 : Int32) (x3 : Int32) (h : qa_M) {z : ((Int32 × Int32 × Int32 × qa_M) ⊕ (Int32 × qa_M))} (E : f_X12_least_b88 x1 x3 h = some z) : qfr wz h ((Sum.elim (fun z : Int32 × Int32 × Int32 × qa_M => z.2.2.2) (fun z : Int32 × qa_M => z.2)) z) := by
  unfold f_X12_least_b88 at E
  have e_h : qfr wz h h := qfr_rf
  exact qfr_tr e_h (qfr_sub qsub_nil (fr_X12_least_b93 x1 x3 x3 h E))
theorem fr_X12_least_b54 (x1 : Int32) (x2 : Int32) (x3 : Int32) (s0 : Int32) (h : qa_M) {z : ((Int32 × Int32 × Int32 × qa_M) ⊕ (Int32 × qa_M))} (E : f_X12_least_b54 x1 x2 x3 s0 h = some z) : qfr wz h ((Sum.elim (fun z : Int32 × Int32 × Int32 × qa_M => z.2.2.2) (fun z : Int32 × qa_M => z.2)) z) := by
  unfold f_X12_least_b54 at E
  have e_h : qfr wz h h := qfr_rf
  obtain ⟨v54, -, E⟩ := qbd_el E
  rcases qif_el E with E | E
  · exact qfr_tr e_h (qfr_sub qsub_nil (fr_X12_least_b92 x1 x2 x3 h E))
  · obtain ⟨c62, h62, E0, E⟩ := qbn_el E
    have e_h62 := qfr_tr e_h (qfr_sub qsub_nil (fr_X12_bits x3 h E0))
    obtain ⟨c66, h66, E0, E⟩ := qbn_el E
    have e_h66 := qfr_tr e_h62 (qfr_sub qsub_nil (fr_X12_bits x2 h62 E0))
    rcases qif_el E with E | E
    · exact qfr_tr e_h66 (qfr_sub qsub_nil (fr_X12_least_b88 x1 x3 h66 E))
    · obtain ⟨c73, h73, E0, E⟩ := qbn_el E
      have e_h73 := qfr_tr e_h66 (qfr_sub qsub_nil (fr_X12_bits x3 h66 E0))
      obtain ⟨c77, h77, E0, E⟩ := qbn_el E
      have e_h77 := qfr_tr e_h73 (qfr_sub qsub_nil (fr_X12_bits x2 h73 E0))
      rcases qif_el E with E | E
      · rcases qif_el E with E | E
        · exact qfr_tr e_h77 (qfr_sub qsub_nil (fr_X12_least_b92 x1 x2 x3 h77 E))
        · exact qfr_tr e_h77 (qfr_sub qsub_nil (fr_X12_least_b88 x1 x3 h77 E))
      · exact qfr_tr e_h77 (qfr_sub qsub_nil (fr_X12_least_b92 x1 x2 x3 h77 E))
theorem fr_X12_least_b53 (x1 : Int32) (x2 : Int32) (x3 : Int32) (h : qa_M) {z : ((Int32 × Int32 × Int32 × qa_M) ⊕ (Int32 × qa_M))} (E : f_X12_least_b53 x1 x2 x3 h = some z) : qfr wz h ((Sum.elim (fun z : Int32 × Int32 × Int32 × qa_M => z.2.2.2) (fun z : Int32 × qa_M => z.2)) z) := by
  unfold f_X12_least_b53 at E
  have e_h : qfr wz h h := qfr_rf
  exact qfr_tr e_h (qfr_sub qsub_nil (fr_X12_least_b54 x1 x2 x3 (0 : Int32) h E))
theorem fr_X12_least_b19 (x1 : Int32) (x2 : Int32) (x3 : Int32) (h : qa_M) {z : ((Int32 × Int32 × Int32 × qa_M) ⊕ (Int32 × qa_M))} (E : f_X12_least_b19 x1 x2 x3 h = some z) : qfr wz h ((Sum.elim (fun z : Int32 × Int32 × Int32 × qa_M => z.2.2.2) (fun z : Int32 × qa_M => z.2)) z) := by
  unfold f_X12_least_b19 at E
  have e_h : qfr wz h h := qfr_rf
  rcases qif_el E with E | E
  · refine qup_f (Q := fun z => qfr wz h ((Sum.elim (fun z : Int32 × Int32 × Int32 × qa_M => z.2.2.2) (fun z : Int32 × qa_M => z.2)) z)) E (fun rz E => ?_)
    exact qsome_f (Q := fun z => qfr wz h ((fun z : Int32 × qa_M => z.2) z)) E e_h
  · rcases qif_el E with E | E
    · obtain ⟨-, E⟩ := qck_el E
      obtain ⟨-, E⟩ := qck_el E
      rcases qif_el E with E | E
      · exact qfr_tr e_h (qfr_sub qsub_nil (fr_X12_least_b54 x1 x2 x3 (1 : Int32) h E))
      · exact qfr_tr e_h (qfr_sub qsub_nil (fr_X12_least_b53 x1 x2 x3 h E))
    · exact qfr_tr e_h (qfr_sub qsub_nil (fr_X12_least_b53 x1 x2 x3 h E))
theorem fr_X12_least_b19_loop (x1 : Int32) (x2 : Int32) (x3 : Int32) (h : qa_M) {z : (Int32 × qa_M)} (E : f_X12_least_b19_loop x1 x2 x3 h = some z) : qfr wz h ((fun z : Int32 × qa_M => z.2) z) :=
  qlp_ind (fun sz : Int32 × Int32 × Int32 × qa_M => qfr wz (sz.2.2.2) ((fun z : Int32 × qa_M => z.2) z)) (fun sz E => fr_X12_least_b19 sz.1 sz.2.1 sz.2.2.1 sz.2.2.2 E) (fun sz sz2 E ih => qfr_tr (fr_X12_least_b19 sz.1 sz.2.1 sz.2.2.1 sz.2.2.2 E) ih) (x1, x2, x3, h) E
def w_X12_least : List (Nat × Nat) := [(119, 49), (119, 50), (149, 0), (150, 0), (151, 0), (152, 0), (153, 0), (154, 0), (155, 0), (157, 0)]
theorem fr_X12_least (x1 : Int32) (h : qa_M) {z : (Int32 × qa_M)} (E : m_X12_least x1 h = some z) : qfr w_X12_least h ((fun z : Int32 × qa_M => z.2) z) := by
  unfold m_X12_least at E
  have e_h : qfr w_X12_least h h := qfr_rf
  obtain ⟨c2, h2, E0, E⟩ := qbn_el E
  have e_h2 := qfr_tr e_h (qfr_sub qsub_nil (fr_X12_isSet x1 h E0))
  rcases qif_el E with E | E
  · exact qsome_f (Q := fun z => qfr w_X12_least h ((fun z : Int32 × qa_M => z.2) z)) E e_h2
  · obtain ⟨h12, E0, E⟩ := qbv_el E
    have e_h12 := qfr_tr e_h2 (qfr_sub (qsub_c (List.mem_of_getElem? (i := 0) rfl) (qsub_c (List.mem_of_getElem? (i := 1) rfl) (qsub_c (List.mem_of_getElem? (i := 2) rfl) (qsub_c (List.mem_of_getElem? (i := 3) rfl) (qsub_c (List.mem_of_getElem? (i := 4) rfl) (qsub_c (List.mem_of_getElem? (i := 5) rfl) (qsub_c (List.mem_of_getElem? (i := 6) rfl) (qsub_c (List.mem_of_getElem? (i := 7) rfl) (qsub_c (List.mem_of_getElem? (i := 8) rfl) (qsub_c (List.mem_of_getElem? (i := 9) rfl) qsub_nil)))))))))) (fr_X12_fillsFitting x1 h2 E0))
    obtain ⟨v16, -, E⟩ := qbd_el E
    obtain ⟨v18, -, E⟩ := qbd_el E
    exact qfr_tr e_h12 (qfr_sub qsub_nil (fr_X12_least_b19_loop x1 v16 v18 h12 E))
theorem fr_X12_careless_b82 (x1 : Int32) (x3 : Int32) (s0 : Int32) (h : qa_M) {z : ((Int32 × Int32 × Int32 × qa_M) ⊕ (Int32 × qa_M))} (E : f_X12_careless_b82 x1 x3 s0 h = some z) : qfr wz h ((Sum.elim (fun z : Int32 × Int32 × Int32 × qa_M => z.2.2.2) (fun z : Int32 × qa_M => z.2)) z) := by
  unfold f_X12_careless_b82 at E
  have e_h : qfr wz h h := qfr_rf
  obtain ⟨v82, -, E⟩ := qbd_el E
  obtain ⟨v83, -, E⟩ := qbd_el E
  exact qsome_f (Q := fun z => qfr wz h ((Sum.elim (fun z : Int32 × Int32 × Int32 × qa_M => z.2.2.2) (fun z : Int32 × qa_M => z.2)) z)) E e_h
theorem fr_X12_careless_b81 (x1 : Int32) (x2 : Int32) (x3 : Int32) (h : qa_M) {z : ((Int32 × Int32 × Int32 × qa_M) ⊕ (Int32 × qa_M))} (E : f_X12_careless_b81 x1 x2 x3 h = some z) : qfr wz h ((Sum.elim (fun z : Int32 × Int32 × Int32 × qa_M => z.2.2.2) (fun z : Int32 × qa_M => z.2)) z) := by
  unfold f_X12_careless_b81 at E
  have e_h : qfr wz h h := qfr_rf
  exact qfr_tr e_h (qfr_sub qsub_nil (fr_X12_careless_b82 x1 x3 x2 h E))
theorem fr_X12_careless_b77 (x1 : Int32) (x3 : Int32) (h : qa_M) {z : ((Int32 × Int32 × Int32 × qa_M) ⊕ (Int32 × qa_M))} (E : f_X12_careless_b77 x1 x3 h = some z) : qfr wz h ((Sum.elim (fun z : Int32 × Int32 × Int32 × qa_M => z.2.2.2) (fun z : Int32 × qa_M => z.2)) z) := by
  unfold f_X12_careless_b77 at E
  have e_h : qfr wz h h := qfr_rf
  exact qfr_tr e_h (qfr_sub qsub_nil (fr_X12_careless_b82 x1 x3 x3 h E))
theorem fr_X12_careless_b53 (x1 : Int32) (x2 : Int32) (x3 : Int32) (s0 : Int32) (h : qa_M) {z : ((Int32 × Int32 × Int32 × qa_M) ⊕ (Int32 × qa_M))} (E : f_X12_careless_b53 x1 x2 x3 s0 h = some z) : qfr wz h ((Sum.elim (fun z : Int32 × Int32 × Int32 × qa_M => z.2.2.2) (fun z : Int32 × qa_M => z.2)) z) := by
  unfold f_X12_careless_b53 at E
  have e_h : qfr wz h h := qfr_rf
  obtain ⟨v53, -, E⟩ := qbd_el E
  rcases qif_el E with E | E
  · exact qfr_tr e_h (qfr_sub qsub_nil (fr_X12_careless_b81 x1 x2 x3 h E))
  · rcases qif_el E with E | E
    · exact qfr_tr e_h (qfr_sub qsub_nil (fr_X12_careless_b77 x1 x3 h E))
    · obtain ⟨c67, h67, E0, E⟩ := qbn_el E
      have e_h67 := qfr_tr e_h (qfr_sub qsub_nil (fr_X12_bits x3 h E0))
      obtain ⟨c71, h71, E0, E⟩ := qbn_el E
      have e_h71 := qfr_tr e_h67 (qfr_sub qsub_nil (fr_X12_bits x2 h67 E0))
      rcases qif_el E with E | E
      · exact qfr_tr e_h71 (qfr_sub qsub_nil (fr_X12_careless_b81 x1 x2 x3 h71 E))
      · exact qfr_tr e_h71 (qfr_sub qsub_nil (fr_X12_careless_b77 x1 x3 h71 E))
theorem fr_X12_careless_b52 (x1 : Int32) (x2 : Int32) (x3 : Int32) (h : qa_M) {z : ((Int32 × Int32 × Int32 × qa_M) ⊕ (Int32 × qa_M))} (E : f_X12_careless_b52 x1 x2 x3 h = some z) : qfr wz h ((Sum.elim (fun z : Int32 × Int32 × Int32 × qa_M => z.2.2.2) (fun z : Int32 × qa_M => z.2)) z) := by
  unfold f_X12_careless_b52 at E
  have e_h : qfr wz h h := qfr_rf
  exact qfr_tr e_h (qfr_sub qsub_nil (fr_X12_careless_b53 x1 x2 x3 (0 : Int32) h E))
theorem fr_X12_careless_b20 (x1 : Int32) (x2 : Int32) (x3 : Int32) (h : qa_M) {z : ((Int32 × Int32 × Int32 × qa_M) ⊕ (Int32 × qa_M))} (E : f_X12_careless_b20 x1 x2 x3 h = some z) : qfr wz h ((Sum.elim (fun z : Int32 × Int32 × Int32 × qa_M => z.2.2.2) (fun z : Int32 × qa_M => z.2)) z) := by
  unfold f_X12_careless_b20 at E
  have e_h : qfr wz h h := qfr_rf
  rcases qif_el E with E | E
  · refine qup_f (Q := fun z => qfr wz h ((Sum.elim (fun z : Int32 × Int32 × Int32 × qa_M => z.2.2.2) (fun z : Int32 × qa_M => z.2)) z)) E (fun rz E => ?_)
    exact qsome_f (Q := fun z => qfr wz h ((fun z : Int32 × qa_M => z.2) z)) E e_h
  · rcases qif_el E with E | E
    · obtain ⟨-, E⟩ := qck_el E
      rcases qif_el E with E | E
      · exact qfr_tr e_h (qfr_sub qsub_nil (fr_X12_careless_b52 x1 x2 x3 h E))
      · exact qfr_tr e_h (qfr_sub qsub_nil (fr_X12_careless_b53 x1 x2 x3 (1 : Int32) h E))
    · exact qfr_tr e_h (qfr_sub qsub_nil (fr_X12_careless_b52 x1 x2 x3 h E))
theorem fr_X12_careless_b20_loop (x1 : Int32) (x2 : Int32) (x3 : Int32) (h : qa_M) {z : (Int32 × qa_M)} (E : f_X12_careless_b20_loop x1 x2 x3 h = some z) : qfr wz h ((fun z : Int32 × qa_M => z.2) z) :=
  qlp_ind (fun sz : Int32 × Int32 × Int32 × qa_M => qfr wz (sz.2.2.2) ((fun z : Int32 × qa_M => z.2) z)) (fun sz E => fr_X12_careless_b20 sz.1 sz.2.1 sz.2.2.1 sz.2.2.2 E) (fun sz sz2 E ih => qfr_tr (fr_X12_careless_b20 sz.1 sz.2.1 sz.2.2.1 sz.2.2.2 E) ih) (x1, x2, x3, h) E
def w_X12_careless : List (Nat × Nat) := [(119, 49), (119, 50), (149, 0), (150, 0), (151, 0), (152, 0), (153, 0), (154, 0), (155, 0), (157, 0)]
theorem fr_X12_careless (x1 : Int32) (h : qa_M) {z : (Int32 × qa_M)} (E : m_X12_careless x1 h = some z) : qfr w_X12_careless h ((fun z : Int32 × qa_M => z.2) z) := by
  unfold m_X12_careless at E
  have e_h : qfr w_X12_careless h h := qfr_rf
  obtain ⟨c2, h2, E0, E⟩ := qbn_el E
  have e_h2 := qfr_tr e_h (qfr_sub qsub_nil (fr_X12_isSet x1 h E0))
  rcases qif_el E with E | E
  · exact qsome_f (Q := fun z => qfr w_X12_careless h ((fun z : Int32 × qa_M => z.2) z)) E e_h2
  · obtain ⟨h12, E0, E⟩ := qbv_el E
    have e_h12 := qfr_tr e_h2 (qfr_sub (qsub_c (List.mem_of_getElem? (i := 0) rfl) (qsub_c (List.mem_of_getElem? (i := 1) rfl) (qsub_c (List.mem_of_getElem? (i := 2) rfl) (qsub_c (List.mem_of_getElem? (i := 3) rfl) (qsub_c (List.mem_of_getElem? (i := 4) rfl) (qsub_c (List.mem_of_getElem? (i := 5) rfl) (qsub_c (List.mem_of_getElem? (i := 6) rfl) (qsub_c (List.mem_of_getElem? (i := 7) rfl) (qsub_c (List.mem_of_getElem? (i := 8) rfl) (qsub_c (List.mem_of_getElem? (i := 9) rfl) qsub_nil)))))))))) (fr_X12_fillsFitting x1 h2 E0))
    obtain ⟨v17, -, E⟩ := qbd_el E
    obtain ⟨v19, -, E⟩ := qbd_el E
    exact qfr_tr e_h12 (qfr_sub qsub_nil (fr_X12_careless_b20_loop x1 v17 v19 h12 E))
theorem fr_X12_notesBy_b50 (x1 : Int32) (x2 : Int32) (x4 : Int32) (s0 : Int32) (s1 : Int32) (h : qa_M) {z : ((Int32 × Int32 × Int32 × Int32 × qa_M) ⊕ (Int32 × qa_M))} (E : f_X12_notesBy_b50 x1 x2 x4 s0 s1 h = some z) : qfr wz h ((Sum.elim (fun z : Int32 × Int32 × Int32 × Int32 × qa_M => z.2.2.2.2) (fun z : Int32 × qa_M => z.2)) z) := by
  unfold f_X12_notesBy_b50 at E
  have e_h : qfr wz h h := qfr_rf
  obtain ⟨v51, -, E⟩ := qbd_el E
  obtain ⟨v52, -, E⟩ := qbd_el E
  exact qsome_f (Q := fun z => qfr wz h ((Sum.elim (fun z : Int32 × Int32 × Int32 × Int32 × qa_M => z.2.2.2.2) (fun z : Int32 × qa_M => z.2)) z)) E e_h
theorem fr_X12_notesBy_b49 (x1 : Int32) (x2 : Int32) (x4 : Int32) (s0 : Int32) (h : qa_M) {z : ((Int32 × Int32 × Int32 × Int32 × qa_M) ⊕ (Int32 × qa_M))} (E : f_X12_notesBy_b49 x1 x2 x4 s0 h = some z) : qfr wz h ((Sum.elim (fun z : Int32 × Int32 × Int32 × Int32 × qa_M => z.2.2.2.2) (fun z : Int32 × qa_M => z.2)) z) := by
  unfold f_X12_notesBy_b49 at E
  have e_h : qfr wz h h := qfr_rf
  exact qfr_tr e_h (qfr_sub qsub_nil (fr_X12_notesBy_b50 x1 x2 x4 s0 (0 : Int32) h E))
theorem fr_X12_notesBy_b5 (x1 : Int32) (x2 : Int32) (x3 : Int32) (x4 : Int32) (h : qa_M) {z : ((Int32 × Int32 × Int32 × Int32 × qa_M) ⊕ (Int32 × qa_M))} (E : f_X12_notesBy_b5 x1 x2 x3 x4 h = some z) : qfr wz h ((Sum.elim (fun z : Int32 × Int32 × Int32 × Int32 × qa_M => z.2.2.2.2) (fun z : Int32 × qa_M => z.2)) z) := by
  unfold f_X12_notesBy_b5 at E
  have e_h : qfr wz h h := qfr_rf
  obtain ⟨-, E⟩ := qck_el E
  rcases qif_el E with E | E
  · refine qup_f (Q := fun z => qfr wz h ((Sum.elim (fun z : Int32 × Int32 × Int32 × Int32 × qa_M => z.2.2.2.2) (fun z : Int32 × qa_M => z.2)) z)) E (fun rz E => ?_)
    exact qsome_f (Q := fun z => qfr wz h ((fun z : Int32 × qa_M => z.2) z)) E e_h
  · obtain ⟨c21, h21, E0, E⟩ := qbn_el E
    have e_h21 := qfr_tr e_h (qfr_sub qsub_nil (fr_X12_has x1.toInt64 x4 h E0))
    rcases qif_el E with E | E
    · exact qfr_tr e_h21 (qfr_sub qsub_nil (fr_X12_notesBy_b49 x1 x2 x4 x3 h21 E))
    · obtain ⟨-, E⟩ := qck_el E
      obtain ⟨c36, h36, E0, E⟩ := qbn_el E
      have e_h36 := qfr_tr e_h21 (qfr_sub qsub_nil (fr_X12_has x2.toInt64 (h21.1 127 x4.toNatClampNeg) h21 E0))
      rcases qif_el E with E | E
      · exact qfr_tr e_h36 (qfr_sub qsub_nil (fr_X12_notesBy_b49 x1 x2 x4 x3 h36 E))
      · exact qfr_tr e_h36 (qfr_sub qsub_nil (fr_X12_notesBy_b50 x1 x2 x4 x3 ((1 : Int32) <<< (x4 &&& 31)) h36 E))
theorem fr_X12_notesBy_b5_loop (x1 : Int32) (x2 : Int32) (x3 : Int32) (x4 : Int32) (h : qa_M) {z : (Int32 × qa_M)} (E : f_X12_notesBy_b5_loop x1 x2 x3 x4 h = some z) : qfr wz h ((fun z : Int32 × qa_M => z.2) z) :=
  qlp_ind (fun sz : Int32 × Int32 × Int32 × Int32 × qa_M => qfr wz (sz.2.2.2.2) ((fun z : Int32 × qa_M => z.2) z)) (fun sz E => fr_X12_notesBy_b5 sz.1 sz.2.1 sz.2.2.1 sz.2.2.2.1 sz.2.2.2.2 E) (fun sz sz2 E ih => qfr_tr (fr_X12_notesBy_b5 sz.1 sz.2.1 sz.2.2.1 sz.2.2.2.1 sz.2.2.2.2 E) ih) (x1, x2, x3, x4, h) E
theorem fr_X12_notesBy (x1 : Int32) (x2 : Int32) (h : qa_M) {z : (Int32 × qa_M)} (E : m_X12_notesBy x1 x2 h = some z) : qfr wz h ((fun z : Int32 × qa_M => z.2) z) := by
  unfold m_X12_notesBy at E
  have e_h : qfr wz h h := qfr_rf
  obtain ⟨v1, -, E⟩ := qbd_el E
  obtain ⟨v3, -, E⟩ := qbd_el E
  exact qfr_tr e_h (qfr_sub qsub_nil (fr_X12_notesBy_b5_loop x1 x2 v1 v3 h E))
theorem fr_X12_trust_b78 (x1 : Int32) (x3 : Int32) (s0 : Int32) (h : qa_M) {z : ((Int32 × Int32 × Int32 × qa_M) ⊕ (Int32 × qa_M))} (E : f_X12_trust_b78 x1 x3 s0 h = some z) : qfr wz h ((Sum.elim (fun z : Int32 × Int32 × Int32 × qa_M => z.2.2.2) (fun z : Int32 × qa_M => z.2)) z) := by
  unfold f_X12_trust_b78 at E
  have e_h : qfr wz h h := qfr_rf
  obtain ⟨v78, -, E⟩ := qbd_el E
  obtain ⟨v79, -, E⟩ := qbd_el E
  exact qsome_f (Q := fun z => qfr wz h ((Sum.elim (fun z : Int32 × Int32 × Int32 × qa_M => z.2.2.2) (fun z : Int32 × qa_M => z.2)) z)) E e_h
theorem fr_X12_trust_b77 (x1 : Int32) (x2 : Int32) (x3 : Int32) (h : qa_M) {z : ((Int32 × Int32 × Int32 × qa_M) ⊕ (Int32 × qa_M))} (E : f_X12_trust_b77 x1 x2 x3 h = some z) : qfr wz h ((Sum.elim (fun z : Int32 × Int32 × Int32 × qa_M => z.2.2.2) (fun z : Int32 × qa_M => z.2)) z) := by
  unfold f_X12_trust_b77 at E
  have e_h : qfr wz h h := qfr_rf
  exact qfr_tr e_h (qfr_sub qsub_nil (fr_X12_trust_b78 x1 x3 x2 h E))
theorem fr_X12_trust_b73 (x1 : Int32) (x3 : Int32) (h : qa_M) {z : ((Int32 × Int32 × Int32 × qa_M) ⊕ (Int32 × qa_M))} (E : f_X12_trust_b73 x1 x3 h = some z) : qfr wz h ((Sum.elim (fun z : Int32 × Int32 × Int32 × qa_M => z.2.2.2) (fun z : Int32 × qa_M => z.2)) z) := by
  unfold f_X12_trust_b73 at E
  have e_h : qfr wz h h := qfr_rf
  exact qfr_tr e_h (qfr_sub qsub_nil (fr_X12_trust_b78 x1 x3 x3 h E))
theorem fr_X12_trust_b49 (x1 : Int32) (x2 : Int32) (x3 : Int32) (s0 : Int32) (h : qa_M) {z : ((Int32 × Int32 × Int32 × qa_M) ⊕ (Int32 × qa_M))} (E : f_X12_trust_b49 x1 x2 x3 s0 h = some z) : qfr wz h ((Sum.elim (fun z : Int32 × Int32 × Int32 × qa_M => z.2.2.2) (fun z : Int32 × qa_M => z.2)) z) := by
  unfold f_X12_trust_b49 at E
  have e_h : qfr wz h h := qfr_rf
  obtain ⟨v49, -, E⟩ := qbd_el E
  rcases qif_el E with E | E
  · exact qfr_tr e_h (qfr_sub qsub_nil (fr_X12_trust_b77 x1 x2 x3 h E))
  · rcases qif_el E with E | E
    · exact qfr_tr e_h (qfr_sub qsub_nil (fr_X12_trust_b73 x1 x3 h E))
    · obtain ⟨c63, h63, E0, E⟩ := qbn_el E
      have e_h63 := qfr_tr e_h (qfr_sub qsub_nil (fr_X12_bits x3 h E0))
      obtain ⟨c67, h67, E0, E⟩ := qbn_el E
      have e_h67 := qfr_tr e_h63 (qfr_sub qsub_nil (fr_X12_bits x2 h63 E0))
      rcases qif_el E with E | E
      · exact qfr_tr e_h67 (qfr_sub qsub_nil (fr_X12_trust_b77 x1 x2 x3 h67 E))
      · exact qfr_tr e_h67 (qfr_sub qsub_nil (fr_X12_trust_b73 x1 x3 h67 E))
theorem fr_X12_trust_b20 (x1 : Int32) (x2 : Int32) (x3 : Int32) (h : qa_M) {z : ((Int32 × Int32 × Int32 × qa_M) ⊕ (Int32 × qa_M))} (E : f_X12_trust_b20 x1 x2 x3 h = some z) : qfr wz h ((Sum.elim (fun z : Int32 × Int32 × Int32 × qa_M => z.2.2.2) (fun z : Int32 × qa_M => z.2)) z) := by
  unfold f_X12_trust_b20 at E
  have e_h : qfr wz h h := qfr_rf
  rcases qif_el E with E | E
  · refine qup_f (Q := fun z => qfr wz h ((Sum.elim (fun z : Int32 × Int32 × Int32 × qa_M => z.2.2.2) (fun z : Int32 × qa_M => z.2)) z)) E (fun rz E => ?_)
    exact qsome_f (Q := fun z => qfr wz h ((fun z : Int32 × qa_M => z.2) z)) E e_h
  · obtain ⟨c34, h34, E0, E⟩ := qbn_el E
    have e_h34 := qfr_tr e_h (qfr_sub qsub_nil (fr_X12_notesBy x1 x3 h E0))
    obtain ⟨-, E⟩ := qck_el E
    rcases qif_el E with E | E
    · exact qfr_tr e_h34 (qfr_sub qsub_nil (fr_X12_trust_b49 x1 x2 x3 (0 : Int32) h34 E))
    · exact qfr_tr e_h34 (qfr_sub qsub_nil (fr_X12_trust_b49 x1 x2 x3 (1 : Int32) h34 E))
theorem fr_X12_trust_b20_loop (x1 : Int32) (x2 : Int32) (x3 : Int32) (h : qa_M) {z : (Int32 × qa_M)} (E : f_X12_trust_b20_loop x1 x2 x3 h = some z) : qfr wz h ((fun z : Int32 × qa_M => z.2) z) :=
  qlp_ind (fun sz : Int32 × Int32 × Int32 × qa_M => qfr wz (sz.2.2.2) ((fun z : Int32 × qa_M => z.2) z)) (fun sz E => fr_X12_trust_b20 sz.1 sz.2.1 sz.2.2.1 sz.2.2.2 E) (fun sz sz2 E ih => qfr_tr (fr_X12_trust_b20 sz.1 sz.2.1 sz.2.2.1 sz.2.2.2 E) ih) (x1, x2, x3, h) E
def w_X12_trust : List (Nat × Nat) := [(119, 49), (119, 50), (149, 0), (150, 0), (151, 0), (152, 0), (153, 0), (154, 0), (155, 0), (157, 0)]
theorem fr_X12_trust (x1 : Int32) (h : qa_M) {z : (Int32 × qa_M)} (E : m_X12_trust x1 h = some z) : qfr w_X12_trust h ((fun z : Int32 × qa_M => z.2) z) := by
  unfold m_X12_trust at E
  have e_h : qfr w_X12_trust h h := qfr_rf
  obtain ⟨c2, h2, E0, E⟩ := qbn_el E
  have e_h2 := qfr_tr e_h (qfr_sub qsub_nil (fr_X12_isSet x1 h E0))
  rcases qif_el E with E | E
  · exact qsome_f (Q := fun z => qfr w_X12_trust h ((fun z : Int32 × qa_M => z.2) z)) E e_h2
  · obtain ⟨h12, E0, E⟩ := qbv_el E
    have e_h12 := qfr_tr e_h2 (qfr_sub (qsub_c (List.mem_of_getElem? (i := 0) rfl) (qsub_c (List.mem_of_getElem? (i := 1) rfl) (qsub_c (List.mem_of_getElem? (i := 2) rfl) (qsub_c (List.mem_of_getElem? (i := 3) rfl) (qsub_c (List.mem_of_getElem? (i := 4) rfl) (qsub_c (List.mem_of_getElem? (i := 5) rfl) (qsub_c (List.mem_of_getElem? (i := 6) rfl) (qsub_c (List.mem_of_getElem? (i := 7) rfl) (qsub_c (List.mem_of_getElem? (i := 8) rfl) (qsub_c (List.mem_of_getElem? (i := 9) rfl) qsub_nil)))))))))) (fr_X12_fillsFitting x1 h2 E0))
    obtain ⟨v17, -, E⟩ := qbd_el E
    obtain ⟨v19, -, E⟩ := qbd_el E
    exact qfr_tr e_h12 (qfr_sub qsub_nil (fr_X12_trust_b20_loop x1 v17 v19 h12 E))
theorem fr_X12_noneSeen_b71 (x1 : Int64) (x4 : Int32) (s0 : Int32) (s1 : Int32) (h : qa_M) {z : ((Int64 × Int32 × Int32 × qa_M) ⊕ (Int32 × qa_M))} (E : f_X12_noneSeen_b71 x1 x4 s0 s1 h = some z) : qfr wz h ((Sum.elim (fun z : Int64 × Int32 × Int32 × qa_M => z.2.2.2) (fun z : Int32 × qa_M => z.2)) z) := by
  unfold f_X12_noneSeen_b71 at E
  have e_h : qfr wz h h := qfr_rf
  obtain ⟨v72, -, E⟩ := qbd_el E
  obtain ⟨v73, -, E⟩ := qbd_el E
  exact qsome_f (Q := fun z => qfr wz h ((Sum.elim (fun z : Int64 × Int32 × Int32 × qa_M => z.2.2.2) (fun z : Int32 × qa_M => z.2)) z)) E e_h
theorem fr_X12_noneSeen_b32 (x1 : Int64) (x3 : Int32) (x4 : Int32) (h : qa_M) {z : ((Int64 × Int32 × Int32 × qa_M) ⊕ (Int32 × qa_M))} (E : f_X12_noneSeen_b32 x1 x3 x4 h = some z) : qfr wz h ((Sum.elim (fun z : Int64 × Int32 × Int32 × qa_M => z.2.2.2) (fun z : Int32 × qa_M => z.2)) z) := by
  unfold f_X12_noneSeen_b32 at E
  have e_h : qfr wz h h := qfr_rf
  rcases qif_el E with E | E
  · refine qup_f (Q := fun z => qfr wz h ((Sum.elim (fun z : Int64 × Int32 × Int32 × qa_M => z.2.2.2) (fun z : Int32 × qa_M => z.2)) z)) E (fun rz E => ?_)
    exact qsome_f (Q := fun z => qfr wz h ((fun z : Int32 × qa_M => z.2) z)) E e_h
  · obtain ⟨-, E⟩ := qck_el E
    obtain ⟨c50, h50, E0, E⟩ := qbn_el E
    have e_h50 := qfr_tr e_h (qfr_sub qsub_nil (fr_X12_has x1 (h.1 151 x4.toNatClampNeg) h E0))
    rcases qif_el E with E | E
    · exact qfr_tr e_h50 (qfr_sub qsub_nil (fr_X12_noneSeen_b71 x1 x4 x3 (-1 : Int32) h50 E))
    · obtain ⟨-, E⟩ := qck_el E
      exact qfr_tr e_h50 (qfr_sub qsub_nil (fr_X12_noneSeen_b71 x1 x4 x3 (((1 : Int32) <<< ((h50.1 152 x4.toNatClampNeg) &&& 31)) ^^^ (-1 : Int32)) h50 E))
theorem fr_X12_noneSeen_b32_loop (x1 : Int64) (x3 : Int32) (x4 : Int32) (h : qa_M) {z : (Int32 × qa_M)} (E : f_X12_noneSeen_b32_loop x1 x3 x4 h = some z) : qfr wz h ((fun z : Int32 × qa_M => z.2) z) :=
  qlp_ind (fun sz : Int64 × Int32 × Int32 × qa_M => qfr wz (sz.2.2.2) ((fun z : Int32 × qa_M => z.2) z)) (fun sz E => fr_X12_noneSeen_b32 sz.1 sz.2.1 sz.2.2.1 sz.2.2.2 E) (fun sz sz2 E ih => qfr_tr (fr_X12_noneSeen_b32 sz.1 sz.2.1 sz.2.2.1 sz.2.2.2 E) ih) (x1, x3, x4, h) E
theorem fr_X12_noneSeen_b29 (x1 : Int64) (x3 : Int32) (h : qa_M) {z : (Int32 × qa_M)} (E : f_X12_noneSeen_b29 x1 x3 h = some z) : qfr wz h ((fun z : Int32 × qa_M => z.2) z) := by
  unfold f_X12_noneSeen_b29 at E
  have e_h : qfr wz h h := qfr_rf
  obtain ⟨v30, -, E⟩ := qbd_el E
  exact qfr_tr e_h (qfr_sub qsub_nil (fr_X12_noneSeen_b32_loop x1 x3 v30 h E))
theorem fr_X12_noneSeen_b5 (x1 : Int64) (x3 : Int32) (x4 : Int32) (h : qa_M) {z : ((Int64 × Int32 × Int32 × qa_M) ⊕ (Int32 × qa_M))} (E : f_X12_noneSeen_b5 x1 x3 x4 h = some z) : qfr wz h ((Sum.elim (fun z : Int64 × Int32 × Int32 × qa_M => z.2.2.2) (fun z : Int32 × qa_M => z.2)) z) := by
  unfold f_X12_noneSeen_b5 at E
  have e_h : qfr wz h h := qfr_rf
  obtain ⟨-, E⟩ := qck_el E
  rcases qif_el E with E | E
  · refine qup_f (Q := fun z => qfr wz h ((Sum.elim (fun z : Int64 × Int32 × Int32 × qa_M => z.2.2.2) (fun z : Int32 × qa_M => z.2)) z)) E (fun rz E => ?_)
    exact qfr_tr e_h (qfr_sub qsub_nil (fr_X12_noneSeen_b29 x1 x3 h E))
  · obtain ⟨v22, -, E⟩ := qbd_el E
    obtain ⟨v23, -, E⟩ := qbd_el E
    exact qsome_f (Q := fun z => qfr wz h ((Sum.elim (fun z : Int64 × Int32 × Int32 × qa_M => z.2.2.2) (fun z : Int32 × qa_M => z.2)) z)) E e_h
theorem fr_X12_noneSeen_b5_loop (x1 : Int64) (x3 : Int32) (x4 : Int32) (h : qa_M) {z : (Int32 × qa_M)} (E : f_X12_noneSeen_b5_loop x1 x3 x4 h = some z) : qfr wz h ((fun z : Int32 × qa_M => z.2) z) :=
  qlp_ind (fun sz : Int64 × Int32 × Int32 × qa_M => qfr wz (sz.2.2.2) ((fun z : Int32 × qa_M => z.2) z)) (fun sz E => fr_X12_noneSeen_b5 sz.1 sz.2.1 sz.2.2.1 sz.2.2.2 E) (fun sz sz2 E ih => qfr_tr (fr_X12_noneSeen_b5 sz.1 sz.2.1 sz.2.2.1 sz.2.2.2 E) ih) (x1, x3, x4, h) E
theorem fr_X12_noneSeen (x1 : Int64) (h : qa_M) {z : (Int32 × qa_M)} (E : m_X12_noneSeen x1 h = some z) : qfr wz h ((fun z : Int32 × qa_M => z.2) z) := by
  unfold m_X12_noneSeen at E
  have e_h : qfr wz h h := qfr_rf
  obtain ⟨v1, -, E⟩ := qbd_el E
  obtain ⟨v3, -, E⟩ := qbd_el E
  exact qfr_tr e_h (qfr_sub qsub_nil (fr_X12_noneSeen_b5_loop x1 v1 v3 h E))
theorem fr_X12_cell (x0 : Int32) (x1 : Int32) (x2 : Int32) (x3 : Int32) (h : qa_M) {z : (Int32 × qa_M)} (E : m_X12_cell x0 x1 x2 x3 h = some z) : qfr wz h ((fun z : Int32 × qa_M => z.2) z) := by
  unfold m_X12_cell at E
  have e_h : qfr wz h h := qfr_rf
  exact qsome_f (Q := fun z => qfr wz h ((fun z : Int32 × qa_M => z.2) z)) E e_h
theorem fr_X12_fillsBoth_b172 (x1 : Int32) (h : qa_M) {z : ((Int32 × qa_M) ⊕ qa_M)} (E : f_X12_fillsBoth_b172 x1 h = some z) : qfr wz h ((Sum.elim (fun z : Int32 × qa_M => z.2) (fun z : qa_M => z)) z) := by
  unfold f_X12_fillsBoth_b172 at E
  have e_h : qfr wz h h := qfr_rf
  exact qsome_f (Q := fun z => qfr wz h ((Sum.elim (fun z : Int32 × qa_M => z.2) (fun z : qa_M => z)) z)) E e_h
theorem fr_X12_fillsBoth_b166 (x1 : Int32) (x2 : Int32) (h : qa_M) {z : ((Int32 × Int32 × qa_M) ⊕ ((Int32 × qa_M) ⊕ qa_M))} (E : f_X12_fillsBoth_b166 x1 x2 h = some z) : qfr wz h ((Sum.elim (fun z : Int32 × Int32 × qa_M => z.2.2) (Sum.elim (fun z : Int32 × qa_M => z.2) (fun z : qa_M => z))) z) := by
  unfold f_X12_fillsBoth_b166 at E
  have e_h : qfr wz h h := qfr_rf
  obtain ⟨v166, -, E⟩ := qbd_el E
  exact qsome_f (Q := fun z => qfr wz h ((Sum.elim (fun z : Int32 × Int32 × qa_M => z.2.2) (Sum.elim (fun z : Int32 × qa_M => z.2) (fun z : qa_M => z))) z)) E e_h
def wf_X12_fillsBoth_b124 : List (Nat × Nat) := [(159, 0)]
theorem fr_X12_fillsBoth_b124 (x1 : Int32) (x2 : Int32) (x3 : Int32) (h : qa_M) {z : ((Int32 × Int32 × Int32 × qa_M) ⊕ ((Int32 × Int32 × qa_M) ⊕ ((Int32 × qa_M) ⊕ qa_M)))} (E : f_X12_fillsBoth_b124 x1 x2 x3 h = some z) : qfr wf_X12_fillsBoth_b124 h ((Sum.elim (fun z : Int32 × Int32 × Int32 × qa_M => z.2.2.2) (Sum.elim (fun z : Int32 × Int32 × qa_M => z.2.2) (Sum.elim (fun z : Int32 × qa_M => z.2) (fun z : qa_M => z)))) z) := by
  unfold f_X12_fillsBoth_b124 at E
  have e_h : qfr wf_X12_fillsBoth_b124 h h := qfr_rf
  obtain ⟨-, E⟩ := qck_el E
  rcases qif_el E with E | E
  · refine qup_f (Q := fun z => qfr wf_X12_fillsBoth_b124 h ((Sum.elim (fun z : Int32 × Int32 × Int32 × qa_M => z.2.2.2) (Sum.elim (fun z : Int32 × Int32 × qa_M => z.2.2) (Sum.elim (fun z : Int32 × qa_M => z.2) (fun z : qa_M => z)))) z)) E (fun rz E => ?_)
    exact qfr_tr e_h (qfr_sub qsub_nil (fr_X12_fillsBoth_b166 x1 x2 h E))
  · obtain ⟨-, E⟩ := qck_el E
    obtain ⟨-, E⟩ := qck_el E
    obtain ⟨c152, h152, E0, E⟩ := qbn_el E
    have e_h152 := qfr_tr e_h (qfr_sub qsub_nil (fr_X12_cell x2 (h.1 158 x2.toNatClampNeg) x3 (h.1 158 x3.toNatClampNeg) h E0))
    obtain ⟨-, E⟩ := qck_el E
    obtain ⟨-, E⟩ := qck_el E
    obtain ⟨h159, q_h159, E⟩ := qbd_el E
    have e_h159 := qfr_I0 q_h159 (List.mem_of_getElem? (i := 0) rfl) e_h152
    obtain ⟨v160, -, E⟩ := qbd_el E
    exact qsome_f (Q := fun z => qfr wf_X12_fillsBoth_b124 h ((Sum.elim (fun z : Int32 × Int32 × Int32 × qa_M => z.2.2.2) (Sum.elim (fun z : Int32 × Int32 × qa_M => z.2.2) (Sum.elim (fun z : Int32 × qa_M => z.2) (fun z : qa_M => z)))) z)) E e_h159
theorem fr_X12_fillsBoth_b124_loop (x1 : Int32) (x2 : Int32) (x3 : Int32) (h : qa_M) {z : ((Int32 × Int32 × qa_M) ⊕ ((Int32 × qa_M) ⊕ qa_M))} (E : f_X12_fillsBoth_b124_loop x1 x2 x3 h = some z) : qfr wf_X12_fillsBoth_b124 h ((Sum.elim (fun z : Int32 × Int32 × qa_M => z.2.2) (Sum.elim (fun z : Int32 × qa_M => z.2) (fun z : qa_M => z))) z) :=
  qlp_ind (fun sz : Int32 × Int32 × Int32 × qa_M => qfr wf_X12_fillsBoth_b124 (sz.2.2.2) ((Sum.elim (fun z : Int32 × Int32 × qa_M => z.2.2) (Sum.elim (fun z : Int32 × qa_M => z.2) (fun z : qa_M => z))) z)) (fun sz E => fr_X12_fillsBoth_b124 sz.1 sz.2.1 sz.2.2.1 sz.2.2.2 E) (fun sz sz2 E ih => qfr_tr (fr_X12_fillsBoth_b124 sz.1 sz.2.1 sz.2.2.1 sz.2.2.2 E) ih) (x1, x2, x3, h) E
def wf_X12_fillsBoth_b112 : List (Nat × Nat) := [(159, 0)]
theorem fr_X12_fillsBoth_b112 (x1 : Int32) (x2 : Int32) (h : qa_M) {z : ((Int32 × Int32 × qa_M) ⊕ ((Int32 × qa_M) ⊕ qa_M))} (E : f_X12_fillsBoth_b112 x1 x2 h = some z) : qfr wf_X12_fillsBoth_b112 h ((Sum.elim (fun z : Int32 × Int32 × qa_M => z.2.2) (Sum.elim (fun z : Int32 × qa_M => z.2) (fun z : qa_M => z))) z) := by
  unfold f_X12_fillsBoth_b112 at E
  have e_h : qfr wf_X12_fillsBoth_b112 h h := qfr_rf
  obtain ⟨-, E⟩ := qck_el E
  rcases qif_el E with E | E
  · refine qup_f (Q := fun z => qfr wf_X12_fillsBoth_b112 h ((Sum.elim (fun z : Int32 × Int32 × qa_M => z.2.2) (Sum.elim (fun z : Int32 × qa_M => z.2) (fun z : qa_M => z))) z)) E (fun rz E => ?_)
    exact qfr_tr e_h (qfr_sub qsub_nil (fr_X12_fillsBoth_b172 x1 h E))
  · obtain ⟨v123, -, E⟩ := qbd_el E
    exact qfr_tr e_h (qfr_sub (qsub_c (List.mem_of_getElem? (i := 0) rfl) qsub_nil) (fr_X12_fillsBoth_b124_loop x1 x2 v123 h E))
theorem fr_X12_fillsBoth_b112_loop (x1 : Int32) (x2 : Int32) (h : qa_M) {z : ((Int32 × qa_M) ⊕ qa_M)} (E : f_X12_fillsBoth_b112_loop x1 x2 h = some z) : qfr wf_X12_fillsBoth_b112 h ((Sum.elim (fun z : Int32 × qa_M => z.2) (fun z : qa_M => z)) z) :=
  qlp_ind (fun sz : Int32 × Int32 × qa_M => qfr wf_X12_fillsBoth_b112 (sz.2.2) ((Sum.elim (fun z : Int32 × qa_M => z.2) (fun z : qa_M => z)) z)) (fun sz E => fr_X12_fillsBoth_b112 sz.1 sz.2.1 sz.2.2 E) (fun sz sz2 E ih => qfr_tr (fr_X12_fillsBoth_b112 sz.1 sz.2.1 sz.2.2 E) ih) (x1, x2, h) E
def wf_X12_fillsBoth_b110 : List (Nat × Nat) := [(159, 0)]
theorem fr_X12_fillsBoth_b110 (x1 : Int32) (h : qa_M) {z : ((Int32 × qa_M) ⊕ qa_M)} (E : f_X12_fillsBoth_b110 x1 h = some z) : qfr wf_X12_fillsBoth_b110 h ((Sum.elim (fun z : Int32 × qa_M => z.2) (fun z : qa_M => z)) z) := by
  unfold f_X12_fillsBoth_b110 at E
  have e_h : qfr wf_X12_fillsBoth_b110 h h := qfr_rf
  obtain ⟨v111, -, E⟩ := qbd_el E
  exact qfr_tr e_h (qfr_sub (qsub_c (List.mem_of_getElem? (i := 0) rfl) qsub_nil) (fr_X12_fillsBoth_b112_loop x1 v111 h E))
def wf_X12_fillsBoth_b78 : List (Nat × Nat) := [(158, 0), (159, 0)]
theorem fr_X12_fillsBoth_b78 (x1 : Int32) (x2 : Int32) (h : qa_M) {z : ((Int32 × Int32 × qa_M) ⊕ ((Int32 × qa_M) ⊕ qa_M))} (E : f_X12_fillsBoth_b78 x1 x2 h = some z) : qfr wf_X12_fillsBoth_b78 h ((Sum.elim (fun z : Int32 × Int32 × qa_M => z.2.2) (Sum.elim (fun z : Int32 × qa_M => z.2) (fun z : qa_M => z))) z) := by
  unfold f_X12_fillsBoth_b78 at E
  have e_h : qfr wf_X12_fillsBoth_b78 h h := qfr_rf
  obtain ⟨-, E⟩ := qck_el E
  rcases qif_el E with E | E
  · refine qup_f (Q := fun z => qfr wf_X12_fillsBoth_b78 h ((Sum.elim (fun z : Int32 × Int32 × qa_M => z.2.2) (Sum.elim (fun z : Int32 × qa_M => z.2) (fun z : qa_M => z))) z)) E (fun rz E => ?_)
    exact qfr_tr e_h (qfr_sub (qsub_c (List.mem_of_getElem? (i := 1) rfl) qsub_nil) (fr_X12_fillsBoth_b110 x1 h E))
  · obtain ⟨-, E⟩ := qck_el E
    obtain ⟨c100, h100, E0, E⟩ := qbn_el E
    have e_h100 := qfr_tr e_h (qfr_sub qsub_nil (fr_X12_noneSeen (h.2.1 156 x2.toNatClampNeg) h E0))
    obtain ⟨-, E⟩ := qck_el E
    obtain ⟨h103, q_h103, E⟩ := qbd_el E
    have e_h103 := qfr_I0 q_h103 (List.mem_of_getElem? (i := 0) rfl) e_h100
    obtain ⟨v104, -, E⟩ := qbd_el E
    exact qsome_f (Q := fun z => qfr wf_X12_fillsBoth_b78 h ((Sum.elim (fun z : Int32 × Int32 × qa_M => z.2.2) (Sum.elim (fun z : Int32 × qa_M => z.2) (fun z : qa_M => z))) z)) E e_h103
