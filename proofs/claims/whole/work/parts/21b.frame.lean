theorem fr_X7_nth_b23 (x3 : Int64) (h : qa_M) {z : (Int32 × qa_M)} (E : f_X7_nth_b23 x3 h = some z) : qfr wz h ((fun z : Int32 × qa_M => z.2) z) := by
  unfold f_X7_nth_b23 at E
  have e_h : qfr wz h h := qfr_rf
  obtain ⟨c24, h24, E0, E⟩ := qbn_el E
  have e_h24 := qfr_tr e_h (qfr_sub qsub_nil (fr_X2_lowest x3 h E0))
  exact qsome_f (Q := fun z => qfr wz h ((fun z : Int32 × qa_M => z.2) z)) E e_h24
theorem fr_X7_nth_b5 (x2 : Int32) (x3 : Int64) (x5 : Int32) (h : qa_M) {z : ((Int32 × Int64 × Int32 × qa_M) ⊕ (Int32 × qa_M))} (E : f_X7_nth_b5 x2 x3 x5 h = some z) : qfr wz h ((Sum.elim (fun z : Int32 × Int64 × Int32 × qa_M => z.2.2.2) (fun z : Int32 × qa_M => z.2)) z) := by
  unfold f_X7_nth_b5 at E
  have e_h : qfr wz h h := qfr_rf
  rcases qif_el E with E | E
  · refine qup_f (Q := fun z => qfr wz h ((Sum.elim (fun z : Int32 × Int64 × Int32 × qa_M => z.2.2.2) (fun z : Int32 × qa_M => z.2)) z)) E (fun rz E => ?_)
    exact qfr_tr e_h (qfr_sub qsub_nil (fr_X7_nth_b23 x3 h E))
  · obtain ⟨v16, -, E⟩ := qbd_el E
    obtain ⟨v17, -, E⟩ := qbd_el E
    exact qsome_f (Q := fun z => qfr wz h ((Sum.elim (fun z : Int32 × Int64 × Int32 × qa_M => z.2.2.2) (fun z : Int32 × qa_M => z.2)) z)) E e_h
theorem fr_X7_nth_b5_loop (x2 : Int32) (x3 : Int64) (x5 : Int32) (h : qa_M) {z : (Int32 × qa_M)} (E : f_X7_nth_b5_loop x2 x3 x5 h = some z) : qfr wz h ((fun z : Int32 × qa_M => z.2) z) :=
  qlp_ind (fun sz : Int32 × Int64 × Int32 × qa_M => qfr wz (sz.2.2.2) ((fun z : Int32 × qa_M => z.2) z)) (fun sz E => fr_X7_nth_b5 sz.1 sz.2.1 sz.2.2.1 sz.2.2.2 E) (fun sz sz2 E ih => qfr_tr (fr_X7_nth_b5 sz.1 sz.2.1 sz.2.2.1 sz.2.2.2 E) ih) (x2, x3, x5, h) E
theorem fr_X7_nth (x0 : Int64) (x2 : Int32) (h : qa_M) {z : (Int32 × qa_M)} (E : m_X7_nth x0 x2 h = some z) : qfr wz h ((fun z : Int32 × qa_M => z.2) z) := by
  unfold m_X7_nth at E
  have e_h : qfr wz h h := qfr_rf
  obtain ⟨v1, -, E⟩ := qbd_el E
  obtain ⟨v3, -, E⟩ := qbd_el E
  exact qfr_tr e_h (qfr_sub qsub_nil (fr_X7_nth_b5_loop x2 v1 v3 h E))
theorem fr_X7_squareOf_b52 (x3 : Int32) (x4 : Int32) (h : qa_M) {z : (Int32 × qa_M)} (E : f_X7_squareOf_b52 x3 x4 h = some z) : qfr wz h ((fun z : Int32 × qa_M => z.2) z) := by
  unfold f_X7_squareOf_b52 at E
  have e_h : qfr wz h h := qfr_rf
  rcases qif_el E with E | E
  · obtain ⟨c77, h77, E0, E⟩ := qbn_el E
    have e_h77 := qfr_tr e_h (qfr_sub qsub_nil (fr_X7_nth (h.2.1 22 15) x4 h E0))
    exact qsome_f (Q := fun z => qfr wz h ((fun z : Int32 × qa_M => z.2) z)) E e_h77
  · obtain ⟨-, E⟩ := qck_el E
    exact qsome_f (Q := fun z => qfr wz h ((fun z : Int32 × qa_M => z.2) z)) E e_h
def wf_X7_squareOf_b22 : List (Nat × Nat) := [(22, 13), (22, 16), (31, 0), (32, 0)]
theorem fr_X7_squareOf_b22 (x3 : Int32) (x4 : Int32) (x5 : Int32) (h : qa_M) {z : ((Int32 × Int32 × Int32 × qa_M) ⊕ (Int32 × qa_M))} (E : f_X7_squareOf_b22 x3 x4 x5 h = some z) : qfr wf_X7_squareOf_b22 h ((Sum.elim (fun z : Int32 × Int32 × Int32 × qa_M => z.2.2.2) (fun z : Int32 × qa_M => z.2)) z) := by
  unfold f_X7_squareOf_b22 at E
  have e_h : qfr wf_X7_squareOf_b22 h h := qfr_rf
  rcases qif_el E with E | E
  · refine qup_f (Q := fun z => qfr wf_X7_squareOf_b22 h ((Sum.elim (fun z : Int32 × Int32 × Int32 × qa_M => z.2.2.2) (fun z : Int32 × qa_M => z.2)) z)) E (fun rz E => ?_)
    exact qsome_f (Q := fun z => qfr wf_X7_squareOf_b22 h ((fun z : Int32 × qa_M => z.2) z)) E e_h
  · obtain ⟨c30, h30, E0, E⟩ := qbn_el E
    have e_h30 := qfr_tr e_h (qfr_sub (qsub_c (List.mem_of_getElem? (i := 0) rfl) (qsub_c (List.mem_of_getElem? (i := 1) rfl) (qsub_c (List.mem_of_getElem? (i := 2) rfl) (qsub_c (List.mem_of_getElem? (i := 3) rfl) qsub_nil)))) (fr_X7_step h E0))
    rcases qif_el E with E | E
    · refine qup_f (Q := fun z => qfr wf_X7_squareOf_b22 h ((Sum.elim (fun z : Int32 × Int32 × Int32 × qa_M => z.2.2.2) (fun z : Int32 × qa_M => z.2)) z)) E (fun rz E => ?_)
      exact qsome_f (Q := fun z => qfr wf_X7_squareOf_b22 h ((fun z : Int32 × qa_M => z.2) z)) E e_h30
    · obtain ⟨c40, h40, E0, E⟩ := qbn_el E
      have e_h40 := qfr_tr e_h30 (qfr_sub qsub_nil (fr_J13_bitCount_95d88 (h30.2.1 22 15) h30 E0))
      obtain ⟨v43, -, E⟩ := qbd_el E
      rcases qif_el E with E | E
      · obtain ⟨v86, -, E⟩ := qbd_el E
        obtain ⟨v88, -, E⟩ := qbd_el E
        exact qsome_f (Q := fun z => qfr wf_X7_squareOf_b22 h ((Sum.elim (fun z : Int32 × Int32 × Int32 × qa_M => z.2.2.2) (fun z : Int32 × qa_M => z.2)) z)) E e_h40
      · refine qup_f (Q := fun z => qfr wf_X7_squareOf_b22 h ((Sum.elim (fun z : Int32 × Int32 × Int32 × qa_M => z.2.2.2) (fun z : Int32 × qa_M => z.2)) z)) E (fun rz E => ?_)
        exact qfr_tr e_h40 (qfr_sub qsub_nil (fr_X7_squareOf_b52 x3 x4 h40 E))
theorem fr_X7_squareOf_b22_loop (x3 : Int32) (x4 : Int32) (x5 : Int32) (h : qa_M) {z : (Int32 × qa_M)} (E : f_X7_squareOf_b22_loop x3 x4 x5 h = some z) : qfr wf_X7_squareOf_b22 h ((fun z : Int32 × qa_M => z.2) z) :=
  qlp_ind (fun sz : Int32 × Int32 × Int32 × qa_M => qfr wf_X7_squareOf_b22 (sz.2.2.2) ((fun z : Int32 × qa_M => z.2) z)) (fun sz E => fr_X7_squareOf_b22 sz.1 sz.2.1 sz.2.2.1 sz.2.2.2 E) (fun sz sz2 E ih => qfr_tr (fr_X7_squareOf_b22 sz.1 sz.2.1 sz.2.2.1 sz.2.2.2 E) ih) (x3, x4, x5, h) E
def w_X7_squareOf : List (Nat × Nat) := [(22, 8), (22, 9), (22, 13), (22, 16), (27, 0), (28, 0), (29, 0), (30, 0), (31, 0), (32, 0)]
theorem fr_X7_squareOf (x1 : Int32) (x2 : Int32) (x3 : Int32) (h : qa_M) {z : (Int32 × qa_M)} (E : m_X7_squareOf x1 x2 x3 h = some z) : qfr w_X7_squareOf h ((fun z : Int32 × qa_M => z.2) z) := by
  unfold m_X7_squareOf at E
  have e_h : qfr w_X7_squareOf h h := qfr_rf
  rcases qif_el E with E | E
  · obtain ⟨v12, -, E⟩ := qbd_el E
    obtain ⟨h16, E0, E⟩ := qbv_el E
    have e_h16 := qfr_tr e_h (qfr_sub (qsub_c (List.mem_of_getElem? (i := 0) rfl) (qsub_c (List.mem_of_getElem? (i := 1) rfl) (qsub_c (List.mem_of_getElem? (i := 2) rfl) (qsub_c (List.mem_of_getElem? (i := 4) rfl) (qsub_c (List.mem_of_getElem? (i := 5) rfl) (qsub_c (List.mem_of_getElem? (i := 6) rfl) (qsub_c (List.mem_of_getElem? (i := 7) rfl) (qsub_c (List.mem_of_getElem? (i := 9) rfl) qsub_nil)))))))) (fr_X7_start x1 h E0))
    obtain ⟨v20, -, E⟩ := qbd_el E
    exact qfr_tr e_h16 (qfr_sub (qsub_c (List.mem_of_getElem? (i := 2) rfl) (qsub_c (List.mem_of_getElem? (i := 3) rfl) (qsub_c (List.mem_of_getElem? (i := 8) rfl) (qsub_c (List.mem_of_getElem? (i := 9) rfl) qsub_nil)))) (fr_X7_squareOf_b22_loop x3 v12 v20 h16 E))
  · exact qsome_f (Q := fun z => qfr w_X7_squareOf h ((fun z : Int32 × qa_M => z.2) z)) E e_h
def w_X11_laying : List (Nat × Nat) := [(0, 15), (22, 5), (22, 8), (22, 9), (22, 13), (22, 16), (24, 0), (25, 0), (26, 0), (27, 0), (28, 0), (29, 0), (30, 0), (31, 0), (32, 0), (88, 0), (90, 0), (91, 0), (97, 0), (99, 0), (100, 0), (106, 0), (108, 0), (109, 0), (115, 0), (117, 0), (118, 0)]
theorem fr_X11_laying (x1 : Int32) (x2 : Int32) (x3 : Int32) (h : qa_M) {z : (Int32 × qa_M)} (E : m_X11_laying x1 x2 x3 h = some z) : qfr w_X11_laying h ((fun z : Int32 × qa_M => z.2) z) := by
  unfold m_X11_laying at E
  have e_h : qfr w_X11_laying h h := qfr_rf
  obtain ⟨c2, h2, E0, E⟩ := qbn_el E
  have e_h2 := qfr_tr e_h (qfr_sub qsub_nil (fr_X11_known x1 h E0))
  rcases qif_el E with E | E
  · exact qsome_f (Q := fun z => qfr w_X11_laying h ((fun z : Int32 × qa_M => z.2) z)) E e_h2
  · rcases qif_el E with E | E
    · exact qsome_f (Q := fun z => qfr w_X11_laying h ((fun z : Int32 × qa_M => z.2) z)) E e_h2
    · obtain ⟨c14, h14, E0, E⟩ := qbn_el E
      have e_h14 := qfr_tr e_h2 (qfr_sub qsub_nil (fr_X11_within x3 (4 : Int32) h2 E0))
      rcases qif_el E with E | E
      · exact qsome_f (Q := fun z => qfr w_X11_laying h ((fun z : Int32 × qa_M => z.2) z)) E e_h14
      · obtain ⟨h23, E0, E⟩ := qbv_el E
        have e_h23 := qfr_tr e_h14 (qfr_sub (qsub_c (List.mem_of_getElem? (i := 0) rfl) (qsub_c (List.mem_of_getElem? (i := 1) rfl) (qsub_c (List.mem_of_getElem? (i := 6) rfl) (qsub_c (List.mem_of_getElem? (i := 7) rfl) (qsub_c (List.mem_of_getElem? (i := 8) rfl) (qsub_c (List.mem_of_getElem? (i := 15) rfl) (qsub_c (List.mem_of_getElem? (i := 16) rfl) (qsub_c (List.mem_of_getElem? (i := 17) rfl) (qsub_c (List.mem_of_getElem? (i := 18) rfl) (qsub_c (List.mem_of_getElem? (i := 19) rfl) (qsub_c (List.mem_of_getElem? (i := 20) rfl) (qsub_c (List.mem_of_getElem? (i := 21) rfl) (qsub_c (List.mem_of_getElem? (i := 22) rfl) (qsub_c (List.mem_of_getElem? (i := 23) rfl) (qsub_c (List.mem_of_getElem? (i := 24) rfl) (qsub_c (List.mem_of_getElem? (i := 25) rfl) (qsub_c (List.mem_of_getElem? (i := 26) rfl) qsub_nil))))))))))))))))) (fr_X11_prepare h14 E0))
        obtain ⟨c33, h33, E0, E⟩ := qbn_el E
        have e_h33 := qfr_tr e_h23 (qfr_sub (qsub_c (List.mem_of_getElem? (i := 2) rfl) (qsub_c (List.mem_of_getElem? (i := 3) rfl) (qsub_c (List.mem_of_getElem? (i := 4) rfl) (qsub_c (List.mem_of_getElem? (i := 5) rfl) (qsub_c (List.mem_of_getElem? (i := 9) rfl) (qsub_c (List.mem_of_getElem? (i := 10) rfl) (qsub_c (List.mem_of_getElem? (i := 11) rfl) (qsub_c (List.mem_of_getElem? (i := 12) rfl) (qsub_c (List.mem_of_getElem? (i := 13) rfl) (qsub_c (List.mem_of_getElem? (i := 14) rfl) qsub_nil)))))))))) (fr_X7_squareOf x1 x2 x3 h23 E0))
        exact qsome_f (Q := fun z => qfr w_X11_laying h ((fun z : Int32 × qa_M => z.2) z)) E e_h33
def w_X11_rows : List (Nat × Nat) := [(0, 15), (22, 5), (22, 8), (22, 9), (22, 13), (22, 16), (24, 0), (25, 0), (26, 0), (27, 0), (28, 0), (29, 0), (30, 0), (31, 0), (32, 0), (33, 0), (88, 0), (90, 0), (91, 0), (97, 0), (99, 0), (100, 0), (106, 0), (108, 0), (109, 0), (115, 0), (117, 0), (118, 0)]
theorem fr_X11_rows (x1 : Int32) (x2 : Int32) (x3 : Int32) (x4 : Int32) (h : qa_M) {z : (Int32 × qa_M)} (E : m_X11_rows x1 x2 x3 x4 h = some z) : qfr w_X11_rows h ((fun z : Int32 × qa_M => z.2) z) := by
  unfold m_X11_rows at E
  have e_h : qfr w_X11_rows h h := qfr_rf
  obtain ⟨c2, h2, E0, E⟩ := qbn_el E
  have e_h2 := qfr_tr e_h (qfr_sub qsub_nil (fr_X11_known x1 h E0))
  rcases qif_el E with E | E
  · exact qsome_f (Q := fun z => qfr w_X11_rows h ((fun z : Int32 × qa_M => z.2) z)) E e_h2
  · obtain ⟨c19, h19, E0, E⟩ := qbn_el E
    have e_h19 := qfr_tr e_h2 (qfr_sub qsub_nil (fr_X11_within x2 (h2.1 4 4) h2 E0))
    rcases qif_el E with E | E
    · exact qsome_f (Q := fun z => qfr w_X11_rows h ((fun z : Int32 × qa_M => z.2) z)) E e_h19
    · obtain ⟨c36, h36, E0, E⟩ := qbn_el E
      have e_h36 := qfr_tr e_h19 (qfr_sub qsub_nil (fr_X11_within x3 (h19.1 4 1) h19 E0))
      rcases qif_el E with E | E
      · exact qsome_f (Q := fun z => qfr w_X11_rows h ((fun z : Int32 × qa_M => z.2) z)) E e_h36
      · obtain ⟨c47, h47, E0, E⟩ := qbn_el E
        have e_h47 := qfr_tr e_h36 (qfr_sub qsub_nil (fr_X11_within x4 (5 : Int32) h36 E0))
        rcases qif_el E with E | E
        · exact qsome_f (Q := fun z => qfr w_X11_rows h ((fun z : Int32 × qa_M => z.2) z)) E e_h47
        · obtain ⟨h56, E0, E⟩ := qbv_el E
          have e_h56 := qfr_tr e_h47 (qfr_sub (qsub_c (List.mem_of_getElem? (i := 0) rfl) (qsub_c (List.mem_of_getElem? (i := 1) rfl) (qsub_c (List.mem_of_getElem? (i := 6) rfl) (qsub_c (List.mem_of_getElem? (i := 7) rfl) (qsub_c (List.mem_of_getElem? (i := 8) rfl) (qsub_c (List.mem_of_getElem? (i := 16) rfl) (qsub_c (List.mem_of_getElem? (i := 17) rfl) (qsub_c (List.mem_of_getElem? (i := 18) rfl) (qsub_c (List.mem_of_getElem? (i := 19) rfl) (qsub_c (List.mem_of_getElem? (i := 20) rfl) (qsub_c (List.mem_of_getElem? (i := 21) rfl) (qsub_c (List.mem_of_getElem? (i := 22) rfl) (qsub_c (List.mem_of_getElem? (i := 23) rfl) (qsub_c (List.mem_of_getElem? (i := 24) rfl) (qsub_c (List.mem_of_getElem? (i := 25) rfl) (qsub_c (List.mem_of_getElem? (i := 26) rfl) (qsub_c (List.mem_of_getElem? (i := 27) rfl) qsub_nil))))))))))))))))) (fr_X11_prepare h47 E0))
          obtain ⟨c80, h80, E0, E⟩ := qbn_el E
          have e_h80 := qfr_tr e_h56 (qfr_sub qsub_nil (fr_X2_box (0 : Int32) x3 ((h56.1 4 0) - (1 : Int32)) x3 h56 E0))
          obtain ⟨h83, E0, E⟩ := qbv_el E
          have e_h83 := qfr_tr e_h80 (qfr_sub (qsub_c (List.mem_of_getElem? (i := 2) rfl) (qsub_c (List.mem_of_getElem? (i := 3) rfl) (qsub_c (List.mem_of_getElem? (i := 4) rfl) (qsub_c (List.mem_of_getElem? (i := 5) rfl) (qsub_c (List.mem_of_getElem? (i := 9) rfl) (qsub_c (List.mem_of_getElem? (i := 10) rfl) (qsub_c (List.mem_of_getElem? (i := 11) rfl) (qsub_c (List.mem_of_getElem? (i := 12) rfl) (qsub_c (List.mem_of_getElem? (i := 13) rfl) (qsub_c (List.mem_of_getElem? (i := 14) rfl) (qsub_c (List.mem_of_getElem? (i := 15) rfl) qsub_nil))))))))))) (fr_X7_tally x1 x2 c80 h80 E0))
          obtain ⟨-, E⟩ := qck_el E
          exact qsome_f (Q := fun z => qfr w_X11_rows h ((fun z : Int32 × qa_M => z.2) z)) E e_h83
def w_X11_news : List (Nat × Nat) := [(0, 15), (22, 5), (22, 8), (22, 9), (22, 13), (22, 16), (24, 0), (25, 0), (26, 0), (27, 0), (28, 0), (29, 0), (30, 0), (31, 0), (32, 0), (88, 0), (90, 0), (91, 0), (97, 0), (99, 0), (100, 0), (106, 0), (108, 0), (109, 0), (115, 0), (117, 0), (118, 0)]
theorem fr_X11_news (x1 : Int32) (x2 : Int32) (h : qa_M) {z : (Int32 × qa_M)} (E : m_X11_news x1 x2 h = some z) : qfr w_X11_news h ((fun z : Int32 × qa_M => z.2) z) := by
  unfold m_X11_news at E
  have e_h : qfr w_X11_news h h := qfr_rf
  obtain ⟨c2, h2, E0, E⟩ := qbn_el E
  have e_h2 := qfr_tr e_h (qfr_sub qsub_nil (fr_X11_known x1 h E0))
  rcases qif_el E with E | E
  · exact qsome_f (Q := fun z => qfr w_X11_news h ((fun z : Int32 × qa_M => z.2) z)) E e_h2
  · obtain ⟨c16, h16, E0, E⟩ := qbn_el E
    have e_h16 := qfr_tr e_h2 (qfr_sub qsub_nil (fr_X11_within x2 (h2.1 3 1) h2 E0))
    rcases qif_el E with E | E
    · exact qsome_f (Q := fun z => qfr w_X11_news h ((fun z : Int32 × qa_M => z.2) z)) E e_h16
    · rcases qif_el E with E | E
      · exact qsome_f (Q := fun z => qfr w_X11_news h ((fun z : Int32 × qa_M => z.2) z)) E e_h16
      · obtain ⟨c38, h38, E0, E⟩ := qbn_el E
        have e_h38 := qfr_tr e_h16 (qfr_sub (qsub_c (List.mem_of_getElem? (i := 0) rfl) (qsub_c (List.mem_of_getElem? (i := 1) rfl) (qsub_c (List.mem_of_getElem? (i := 2) rfl) (qsub_c (List.mem_of_getElem? (i := 3) rfl) (qsub_c (List.mem_of_getElem? (i := 4) rfl) (qsub_c (List.mem_of_getElem? (i := 5) rfl) (qsub_c (List.mem_of_getElem? (i := 6) rfl) (qsub_c (List.mem_of_getElem? (i := 7) rfl) (qsub_c (List.mem_of_getElem? (i := 8) rfl) (qsub_c (List.mem_of_getElem? (i := 9) rfl) (qsub_c (List.mem_of_getElem? (i := 10) rfl) (qsub_c (List.mem_of_getElem? (i := 11) rfl) (qsub_c (List.mem_of_getElem? (i := 12) rfl) (qsub_c (List.mem_of_getElem? (i := 13) rfl) (qsub_c (List.mem_of_getElem? (i := 14) rfl) (qsub_c (List.mem_of_getElem? (i := 15) rfl) (qsub_c (List.mem_of_getElem? (i := 16) rfl) (qsub_c (List.mem_of_getElem? (i := 17) rfl) (qsub_c (List.mem_of_getElem? (i := 18) rfl) (qsub_c (List.mem_of_getElem? (i := 19) rfl) (qsub_c (List.mem_of_getElem? (i := 20) rfl) (qsub_c (List.mem_of_getElem? (i := 21) rfl) (qsub_c (List.mem_of_getElem? (i := 22) rfl) (qsub_c (List.mem_of_getElem? (i := 23) rfl) (qsub_c (List.mem_of_getElem? (i := 24) rfl) (qsub_c (List.mem_of_getElem? (i := 25) rfl) (qsub_c (List.mem_of_getElem? (i := 26) rfl) qsub_nil))))))))))))))))))))))))))) (fr_X11_howMany (x1 ^^^ ((1 : Int32) <<< (x2 &&& 31))) h16 E0))
        obtain ⟨c43, h43, E0, E⟩ := qbn_el E
        have e_h43 := qfr_tr e_h38 (qfr_sub (qsub_c (List.mem_of_getElem? (i := 0) rfl) (qsub_c (List.mem_of_getElem? (i := 1) rfl) (qsub_c (List.mem_of_getElem? (i := 2) rfl) (qsub_c (List.mem_of_getElem? (i := 3) rfl) (qsub_c (List.mem_of_getElem? (i := 4) rfl) (qsub_c (List.mem_of_getElem? (i := 5) rfl) (qsub_c (List.mem_of_getElem? (i := 6) rfl) (qsub_c (List.mem_of_getElem? (i := 7) rfl) (qsub_c (List.mem_of_getElem? (i := 8) rfl) (qsub_c (List.mem_of_getElem? (i := 9) rfl) (qsub_c (List.mem_of_getElem? (i := 10) rfl) (qsub_c (List.mem_of_getElem? (i := 11) rfl) (qsub_c (List.mem_of_getElem? (i := 12) rfl) (qsub_c (List.mem_of_getElem? (i := 13) rfl) (qsub_c (List.mem_of_getElem? (i := 14) rfl) (qsub_c (List.mem_of_getElem? (i := 15) rfl) (qsub_c (List.mem_of_getElem? (i := 16) rfl) (qsub_c (List.mem_of_getElem? (i := 17) rfl) (qsub_c (List.mem_of_getElem? (i := 18) rfl) (qsub_c (List.mem_of_getElem? (i := 19) rfl) (qsub_c (List.mem_of_getElem? (i := 20) rfl) (qsub_c (List.mem_of_getElem? (i := 21) rfl) (qsub_c (List.mem_of_getElem? (i := 22) rfl) (qsub_c (List.mem_of_getElem? (i := 23) rfl) (qsub_c (List.mem_of_getElem? (i := 24) rfl) (qsub_c (List.mem_of_getElem? (i := 25) rfl) (qsub_c (List.mem_of_getElem? (i := 26) rfl) qsub_nil))))))))))))))))))))))))))) (fr_X11_howMany x1 h38 E0))
        rcases qif_el E with E | E
        · exact qsome_f (Q := fun z => qfr w_X11_news h ((fun z : Int32 × qa_M => z.2) z)) E e_h43
        · exact qsome_f (Q := fun z => qfr w_X11_news h ((fun z : Int32 × qa_M => z.2) z)) E e_h43
def w_X7_any : List (Nat × Nat) := [(22, 8), (22, 9), (22, 13), (22, 16), (27, 0), (28, 0), (29, 0), (30, 0), (31, 0), (32, 0)]
theorem fr_X7_any (x1 : Int32) (h : qa_M) {z : (Int32 × qa_M)} (E : m_X7_any x1 h = some z) : qfr w_X7_any h ((fun z : Int32 × qa_M => z.2) z) := by
  unfold m_X7_any at E
  have e_h : qfr w_X7_any h h := qfr_rf
  obtain ⟨h2, E0, E⟩ := qbv_el E
  have e_h2 := qfr_tr e_h (qfr_sub (qsub_c (List.mem_of_getElem? (i := 0) rfl) (qsub_c (List.mem_of_getElem? (i := 1) rfl) (qsub_c (List.mem_of_getElem? (i := 2) rfl) (qsub_c (List.mem_of_getElem? (i := 4) rfl) (qsub_c (List.mem_of_getElem? (i := 5) rfl) (qsub_c (List.mem_of_getElem? (i := 6) rfl) (qsub_c (List.mem_of_getElem? (i := 7) rfl) (qsub_c (List.mem_of_getElem? (i := 9) rfl) qsub_nil)))))))) (fr_X7_start x1 h E0))
  obtain ⟨c6, h6, E0, E⟩ := qbn_el E
  have e_h6 := qfr_tr e_h2 (qfr_sub (qsub_c (List.mem_of_getElem? (i := 2) rfl) (qsub_c (List.mem_of_getElem? (i := 3) rfl) (qsub_c (List.mem_of_getElem? (i := 8) rfl) (qsub_c (List.mem_of_getElem? (i := 9) rfl) qsub_nil)))) (fr_X7_step h2 E0))
  obtain ⟨-, E⟩ := qpr_el E
  exact qsome_f (Q := fun z => qfr w_X7_any h ((fun z : Int32 × qa_M => z.2) z)) E e_h6
def w_X11_quarrel : List (Nat × Nat) := [(0, 15), (22, 5), (22, 8), (22, 9), (22, 13), (22, 16), (24, 0), (25, 0), (26, 0), (27, 0), (28, 0), (29, 0), (30, 0), (31, 0), (32, 0), (88, 0), (90, 0), (91, 0), (97, 0), (99, 0), (100, 0), (106, 0), (108, 0), (109, 0), (115, 0), (117, 0), (118, 0)]
theorem fr_X11_quarrel (x1 : Int32) (x2 : Int32) (h : qa_M) {z : (Int32 × qa_M)} (E : m_X11_quarrel x1 x2 h = some z) : qfr w_X11_quarrel h ((fun z : Int32 × qa_M => z.2) z) := by
  unfold m_X11_quarrel at E
  have e_h : qfr w_X11_quarrel h h := qfr_rf
  obtain ⟨c8, h8, E0, E⟩ := qbn_el E
  have e_h8 := qfr_tr e_h (qfr_sub qsub_nil (fr_X11_within x1 (h.1 3 1) h E0))
  rcases qif_el E with E | E
  · exact qsome_f (Q := fun z => qfr w_X11_quarrel h ((fun z : Int32 × qa_M => z.2) z)) E e_h8
  · obtain ⟨c22, h22, E0, E⟩ := qbn_el E
    have e_h22 := qfr_tr e_h8 (qfr_sub qsub_nil (fr_X11_within x2 (h8.1 3 1) h8 E0))
    rcases qif_el E with E | E
    · exact qsome_f (Q := fun z => qfr w_X11_quarrel h ((fun z : Int32 × qa_M => z.2) z)) E e_h22
    · rcases qif_el E with E | E
      · exact qsome_f (Q := fun z => qfr w_X11_quarrel h ((fun z : Int32 × qa_M => z.2) z)) E e_h22
      · obtain ⟨h36, E0, E⟩ := qbv_el E
        have e_h36 := qfr_tr e_h22 (qfr_sub (qsub_c (List.mem_of_getElem? (i := 0) rfl) (qsub_c (List.mem_of_getElem? (i := 1) rfl) (qsub_c (List.mem_of_getElem? (i := 6) rfl) (qsub_c (List.mem_of_getElem? (i := 7) rfl) (qsub_c (List.mem_of_getElem? (i := 8) rfl) (qsub_c (List.mem_of_getElem? (i := 15) rfl) (qsub_c (List.mem_of_getElem? (i := 16) rfl) (qsub_c (List.mem_of_getElem? (i := 17) rfl) (qsub_c (List.mem_of_getElem? (i := 18) rfl) (qsub_c (List.mem_of_getElem? (i := 19) rfl) (qsub_c (List.mem_of_getElem? (i := 20) rfl) (qsub_c (List.mem_of_getElem? (i := 21) rfl) (qsub_c (List.mem_of_getElem? (i := 22) rfl) (qsub_c (List.mem_of_getElem? (i := 23) rfl) (qsub_c (List.mem_of_getElem? (i := 24) rfl) (qsub_c (List.mem_of_getElem? (i := 25) rfl) (qsub_c (List.mem_of_getElem? (i := 26) rfl) qsub_nil))))))))))))))))) (fr_X11_prepare h22 E0))
        obtain ⟨v42, -, E⟩ := qbd_el E
        obtain ⟨v46, -, E⟩ := qbd_el E
        obtain ⟨c53, h53, E0, E⟩ := qbn_el E
        have e_h53 := qfr_tr e_h36 (qfr_sub (qsub_c (List.mem_of_getElem? (i := 2) rfl) (qsub_c (List.mem_of_getElem? (i := 3) rfl) (qsub_c (List.mem_of_getElem? (i := 4) rfl) (qsub_c (List.mem_of_getElem? (i := 5) rfl) (qsub_c (List.mem_of_getElem? (i := 9) rfl) (qsub_c (List.mem_of_getElem? (i := 10) rfl) (qsub_c (List.mem_of_getElem? (i := 11) rfl) (qsub_c (List.mem_of_getElem? (i := 12) rfl) (qsub_c (List.mem_of_getElem? (i := 13) rfl) (qsub_c (List.mem_of_getElem? (i := 14) rfl) qsub_nil)))))))))) (fr_X7_any v42 h36 E0))
        rcases qif_el E with E | E
        · exact qsome_f (Q := fun z => qfr w_X11_quarrel h ((fun z : Int32 × qa_M => z.2) z)) E e_h53
        · obtain ⟨c65, h65, E0, E⟩ := qbn_el E
          have e_h65 := qfr_tr e_h53 (qfr_sub (qsub_c (List.mem_of_getElem? (i := 2) rfl) (qsub_c (List.mem_of_getElem? (i := 3) rfl) (qsub_c (List.mem_of_getElem? (i := 4) rfl) (qsub_c (List.mem_of_getElem? (i := 5) rfl) (qsub_c (List.mem_of_getElem? (i := 9) rfl) (qsub_c (List.mem_of_getElem? (i := 10) rfl) (qsub_c (List.mem_of_getElem? (i := 11) rfl) (qsub_c (List.mem_of_getElem? (i := 12) rfl) (qsub_c (List.mem_of_getElem? (i := 13) rfl) (qsub_c (List.mem_of_getElem? (i := 14) rfl) qsub_nil)))))))))) (fr_X7_any v46 h53 E0))
          rcases qif_el E with E | E
          · exact qsome_f (Q := fun z => qfr w_X11_quarrel h ((fun z : Int32 × qa_M => z.2) z)) E e_h65
          · obtain ⟨c79, h79, E0, E⟩ := qbn_el E
            have e_h79 := qfr_tr e_h65 (qfr_sub (qsub_c (List.mem_of_getElem? (i := 2) rfl) (qsub_c (List.mem_of_getElem? (i := 3) rfl) (qsub_c (List.mem_of_getElem? (i := 4) rfl) (qsub_c (List.mem_of_getElem? (i := 5) rfl) (qsub_c (List.mem_of_getElem? (i := 9) rfl) (qsub_c (List.mem_of_getElem? (i := 10) rfl) (qsub_c (List.mem_of_getElem? (i := 11) rfl) (qsub_c (List.mem_of_getElem? (i := 12) rfl) (qsub_c (List.mem_of_getElem? (i := 13) rfl) (qsub_c (List.mem_of_getElem? (i := 14) rfl) qsub_nil)))))))))) (fr_X7_any (v42 ||| v46) h65 E0))
            rcases qif_el E with E | E
            · exact qsome_f (Q := fun z => qfr w_X11_quarrel h ((fun z : Int32 × qa_M => z.2) z)) E e_h79
            · exact qsome_f (Q := fun z => qfr w_X11_quarrel h ((fun z : Int32 × qa_M => z.2) z)) E e_h79
theorem fr_X1_sortNotes_b104 (x2 : Int32) (h : qa_M) {z : ((Int32 × qa_M) ⊕ qa_M)} (E : f_X1_sortNotes_b104 x2 h = some z) : qfr wz h ((Sum.elim (fun z : Int32 × qa_M => z.2) (fun z : qa_M => z)) z) := by
  unfold f_X1_sortNotes_b104 at E
  have e_h : qfr wz h h := qfr_rf
  obtain ⟨v104, -, E⟩ := qbd_el E
  exact qsome_f (Q := fun z => qfr wz h ((Sum.elim (fun z : Int32 × qa_M => z.2) (fun z : qa_M => z)) z)) E e_h
def wf_X1_sortNotes_b62 : List (Nat × Nat) := [(36, 0)]
theorem fr_X1_sortNotes_b62 (x2 : Int32) (x4 : Int64) (x6 : Int32) (h : qa_M) {z : ((Int32 × Int64 × Int32 × qa_M) ⊕ ((Int32 × qa_M) ⊕ qa_M))} (E : f_X1_sortNotes_b62 x2 x4 x6 h = some z) : qfr wf_X1_sortNotes_b62 h ((Sum.elim (fun z : Int32 × Int64 × Int32 × qa_M => z.2.2.2) (Sum.elim (fun z : Int32 × qa_M => z.2) (fun z : qa_M => z))) z) := by
  unfold f_X1_sortNotes_b62 at E
  have e_h : qfr wf_X1_sortNotes_b62 h h := qfr_rf
  rcases qif_el E with E | E
  · refine qup_f (Q := fun z => qfr wf_X1_sortNotes_b62 h ((Sum.elim (fun z : Int32 × Int64 × Int32 × qa_M => z.2.2.2) (Sum.elim (fun z : Int32 × qa_M => z.2) (fun z : qa_M => z))) z)) E (fun rz E => ?_)
    exact qfr_tr e_h (qfr_sub qsub_nil (fr_X1_sortNotes_b104 x2 h E))
  · obtain ⟨c75, h75, E0, E⟩ := qbn_el E
    have e_h75 := qfr_tr e_h (qfr_sub qsub_nil (fr_X8_sort x2 h E0))
    obtain ⟨-, E⟩ := qck_el E
    obtain ⟨-, E⟩ := qck_el E
    obtain ⟨h97, q_h97, E⟩ := qbd_el E
    have e_h97 := qfr_I0 q_h97 (List.mem_of_getElem? (i := 0) rfl) e_h75
    obtain ⟨v98, -, E⟩ := qbd_el E
    exact qsome_f (Q := fun z => qfr wf_X1_sortNotes_b62 h ((Sum.elim (fun z : Int32 × Int64 × Int32 × qa_M => z.2.2.2) (Sum.elim (fun z : Int32 × qa_M => z.2) (fun z : qa_M => z))) z)) E e_h97
theorem fr_X1_sortNotes_b62_loop (x2 : Int32) (x4 : Int64) (x6 : Int32) (h : qa_M) {z : ((Int32 × qa_M) ⊕ qa_M)} (E : f_X1_sortNotes_b62_loop x2 x4 x6 h = some z) : qfr wf_X1_sortNotes_b62 h ((Sum.elim (fun z : Int32 × qa_M => z.2) (fun z : qa_M => z)) z) :=
  qlp_ind (fun sz : Int32 × Int64 × Int32 × qa_M => qfr wf_X1_sortNotes_b62 (sz.2.2.2) ((Sum.elim (fun z : Int32 × qa_M => z.2) (fun z : qa_M => z)) z)) (fun sz E => fr_X1_sortNotes_b62 sz.1 sz.2.1 sz.2.2.1 sz.2.2.2 E) (fun sz sz2 E ih => qfr_tr (fr_X1_sortNotes_b62 sz.1 sz.2.1 sz.2.2.1 sz.2.2.2 E) ih) (x2, x4, x6, h) E
def wf_X1_sortNotes_b45 : List (Nat × Nat) := [(36, 0), (37, 0)]
theorem fr_X1_sortNotes_b45 (x2 : Int32) (s1 : Int32) (h : qa_M) {z : ((Int32 × qa_M) ⊕ qa_M)} (E : f_X1_sortNotes_b45 x2 s1 h = some z) : qfr wf_X1_sortNotes_b45 h ((Sum.elim (fun z : Int32 × qa_M => z.2) (fun z : qa_M => z)) z) := by
  unfold f_X1_sortNotes_b45 at E
  have e_h : qfr wf_X1_sortNotes_b45 h h := qfr_rf
  obtain ⟨-, E⟩ := qck_el E
  obtain ⟨-, E⟩ := qck_el E
  obtain ⟨h51, q_h51, E⟩ := qbd_el E
  have e_h51 := qfr_I0 q_h51 (List.mem_of_getElem? (i := 1) rfl) e_h
  obtain ⟨c54, h54, E0, E⟩ := qbn_el E
  have e_h54 := qfr_tr e_h51 (qfr_sub qsub_nil (fr_X8_region x2 h51 E0))
  obtain ⟨v57, -, E⟩ := qbd_el E
  obtain ⟨v60, -, E⟩ := qbd_el E
  exact qfr_tr e_h54 (qfr_sub (qsub_c (List.mem_of_getElem? (i := 0) rfl) qsub_nil) (fr_X1_sortNotes_b62_loop x2 v57 v60 h54 E))
def wf_X1_sortNotes_b18 : List (Nat × Nat) := [(36, 0), (37, 0)]
theorem fr_X1_sortNotes_b18 (x2 : Int32) (h : qa_M) {z : ((Int32 × qa_M) ⊕ qa_M)} (E : f_X1_sortNotes_b18 x2 h = some z) : qfr wf_X1_sortNotes_b18 h ((Sum.elim (fun z : Int32 × qa_M => z.2) (fun z : qa_M => z)) z) := by
  unfold f_X1_sortNotes_b18 at E
  have e_h : qfr wf_X1_sortNotes_b18 h h := qfr_rf
  rcases qif_el E with E | E
  · refine qup_f (Q := fun z => qfr wf_X1_sortNotes_b18 h ((Sum.elim (fun z : Int32 × qa_M => z.2) (fun z : qa_M => z)) z)) E (fun rz E => ?_)
    exact qsome_f (Q := fun z => qfr wf_X1_sortNotes_b18 h ((fun z : qa_M => z) z)) E e_h
  · obtain ⟨c28, h28, E0, E⟩ := qbn_el E
    have e_h28 := qfr_tr e_h (qfr_sub qsub_nil (fr_X8_sure x2 h E0))
    obtain ⟨v31, -, E⟩ := qbd_el E
    rcases qif_el E with E | E
    · exact qfr_tr e_h28 (qfr_sub (qsub_c (List.mem_of_getElem? (i := 0) rfl) (qsub_c (List.mem_of_getElem? (i := 1) rfl) qsub_nil)) (fr_X1_sortNotes_b45 x2 v31 h28 E))
    · exact qfr_tr e_h28 (qfr_sub (qsub_c (List.mem_of_getElem? (i := 0) rfl) (qsub_c (List.mem_of_getElem? (i := 1) rfl) qsub_nil)) (fr_X1_sortNotes_b45 x2 (4 : Int32) h28 E))
theorem fr_X1_sortNotes_b18_loop (x2 : Int32) (h : qa_M) {z : qa_M} (E : f_X1_sortNotes_b18_loop x2 h = some z) : qfr wf_X1_sortNotes_b18 h ((fun z : qa_M => z) z) :=
  qlp_ind (fun sz : Int32 × qa_M => qfr wf_X1_sortNotes_b18 (sz.2) ((fun z : qa_M => z) z)) (fun sz E => fr_X1_sortNotes_b18 sz.1 sz.2 E) (fun sz sz2 E ih => qfr_tr (fr_X1_sortNotes_b18 sz.1 sz.2 E) ih) (x2, h) E
def w_X1_sortNotes : List (Nat × Nat) := [(36, 0), (37, 0)]
theorem fr_X1_sortNotes (h : qa_M) {z : qa_M} (E : m_X1_sortNotes h = some z) : qfr w_X1_sortNotes h ((fun z : qa_M => z) z) := by
  unfold m_X1_sortNotes at E
  have e_h : qfr w_X1_sortNotes h h := qfr_rf
  obtain ⟨h5, E0, E⟩ := qbv_el E
  have e_h5 := qfr_tr e_h (qfr_sub (qsub_c (List.mem_of_getElem? (i := 1) rfl) qsub_nil) (fr_J7_fill_53178 37 (0 : Int32) h E0))
  obtain ⟨h13, E0, E⟩ := qbv_el E
  have e_h13 := qfr_tr e_h5 (qfr_sub (qsub_c (List.mem_of_getElem? (i := 0) rfl) qsub_nil) (fr_J7_fill_53178 36 (0 : Int32) h5 E0))
  obtain ⟨v17, -, E⟩ := qbd_el E
  exact qfr_tr e_h13 (qfr_sub (qsub_c (List.mem_of_getElem? (i := 0) rfl) (qsub_c (List.mem_of_getElem? (i := 1) rfl) qsub_nil)) (fr_X1_sortNotes_b18_loop v17 h13 E))
theorem fr_X1_groupSquares_b139 (x1 : Int32) (x2 : Int32) (h : qa_M) {z : ((Int32 × Int32 × qa_M) ⊕ qa_M)} (E : f_X1_groupSquares_b139 x1 x2 h = some z) : qfr wz h ((Sum.elim (fun z : Int32 × Int32 × qa_M => z.2.2) (fun z : qa_M => z)) z) := by
  unfold f_X1_groupSquares_b139 at E
  have e_h : qfr wz h h := qfr_rf
  obtain ⟨v139, -, E⟩ := qbd_el E
  exact qsome_f (Q := fun z => qfr wz h ((Sum.elim (fun z : Int32 × Int32 × qa_M => z.2.2) (fun z : qa_M => z)) z)) E e_h
def wf_X1_groupSquares_b105 : List (Nat × Nat) := [(38, 0)]
theorem fr_X1_groupSquares_b105 (x1 : Int32) (x2 : Int32) (x4 : Int32) (h : qa_M) {z : ((Int32 × Int32 × qa_M) ⊕ qa_M)} (E : f_X1_groupSquares_b105 x1 x2 x4 h = some z) : qfr wf_X1_groupSquares_b105 h ((Sum.elim (fun z : Int32 × Int32 × qa_M => z.2.2) (fun z : qa_M => z)) z) := by
  unfold f_X1_groupSquares_b105 at E
  have e_h : qfr wf_X1_groupSquares_b105 h h := qfr_rf
  rcases qif_el E with E | E
  · exact qfr_tr e_h (qfr_sub qsub_nil (fr_X1_groupSquares_b139 x1 x2 h E))
  · obtain ⟨-, E⟩ := qck_el E
    obtain ⟨-, E⟩ := qck_el E
    obtain ⟨h122, q_h122, E⟩ := qbd_el E
    have e_h122 := qfr_J0 q_h122 (List.mem_of_getElem? (i := 0) rfl) e_h
    obtain ⟨-, E⟩ := qck_el E
    obtain ⟨-, E⟩ := qck_el E
    obtain ⟨h138, q_h138, E⟩ := qbd_el E
    have e_h138 := qfr_J0 q_h138 (List.mem_of_getElem? (i := 0) rfl) e_h122
    exact qfr_tr e_h138 (qfr_sub qsub_nil (fr_X1_groupSquares_b139 x1 x2 h138 E))
def wf_X1_groupSquares_b70 : List (Nat × Nat) := [(34, 5), (38, 0), (39, 0)]
theorem fr_X1_groupSquares_b70 (x1 : Int32) (x2 : Int32) (x3 : Int32) (x4 : Int32) (h : qa_M) {z : ((Int32 × Int32 × qa_M) ⊕ qa_M)} (E : f_X1_groupSquares_b70 x1 x2 x3 x4 h = some z) : qfr wf_X1_groupSquares_b70 h ((Sum.elim (fun z : Int32 × Int32 × qa_M => z.2.2) (fun z : qa_M => z)) z) := by
  unfold f_X1_groupSquares_b70 at E
  have e_h : qfr wf_X1_groupSquares_b70 h h := qfr_rf
  rcases qif_el E with E | E
  · obtain ⟨-, E⟩ := qck_el E
    obtain ⟨h86, q_h86, E⟩ := qbd_el E
    have e_h86 := qfr_I0 q_h86 (List.mem_of_getElem? (i := 2) rfl) e_h
    obtain ⟨-, E⟩ := qck_el E
    obtain ⟨h94, q_h94, E⟩ := qbd_el E
    have e_h94 := qfr_J0 q_h94 (List.mem_of_getElem? (i := 1) rfl) e_h86
    obtain ⟨h102, q_h102, E⟩ := qbd_el E
    have e_h102 := qfr_Ik q_h102 (List.mem_of_getElem? (i := 0) rfl) e_h94
    exact qfr_tr e_h102 (qfr_sub (qsub_c (List.mem_of_getElem? (i := 1) rfl) qsub_nil) (fr_X1_groupSquares_b105 x1 x2 x4 h102 E))
  · exact qfr_tr e_h (qfr_sub (qsub_c (List.mem_of_getElem? (i := 1) rfl) qsub_nil) (fr_X1_groupSquares_b105 x1 x2 x4 h E))
def wf_X1_groupSquares_b44 : List (Nat × Nat) := [(34, 5), (38, 0), (39, 0)]
theorem fr_X1_groupSquares_b44 (x1 : Int32) (x2 : Int32) (x3 : Int32) (x4 : Int32) (h : qa_M) {z : ((Int32 × Int32 × Int32 × Int32 × qa_M) ⊕ ((Int32 × Int32 × qa_M) ⊕ qa_M))} (E : f_X1_groupSquares_b44 x1 x2 x3 x4 h = some z) : qfr wf_X1_groupSquares_b44 h ((Sum.elim (fun z : Int32 × Int32 × Int32 × Int32 × qa_M => z.2.2.2.2) (Sum.elim (fun z : Int32 × Int32 × qa_M => z.2.2) (fun z : qa_M => z))) z) := by
  unfold f_X1_groupSquares_b44 at E
  have e_h : qfr wf_X1_groupSquares_b44 h h := qfr_rf
  rcases qif_el E with E | E
  · refine qup_f (Q := fun z => qfr wf_X1_groupSquares_b44 h ((Sum.elim (fun z : Int32 × Int32 × Int32 × Int32 × qa_M => z.2.2.2.2) (Sum.elim (fun z : Int32 × Int32 × qa_M => z.2.2) (fun z : qa_M => z))) z)) E (fun rz E => ?_)
    exact qfr_tr e_h (qfr_sub (qsub_c (List.mem_of_getElem? (i := 0) rfl) (qsub_c (List.mem_of_getElem? (i := 1) rfl) (qsub_c (List.mem_of_getElem? (i := 2) rfl) qsub_nil))) (fr_X1_groupSquares_b70 x1 x2 x3 x4 h E))
  · obtain ⟨-, E⟩ := qck_el E
    rcases qif_el E with E | E
    · refine qup_f (Q := fun z => qfr wf_X1_groupSquares_b44 h ((Sum.elim (fun z : Int32 × Int32 × Int32 × Int32 × qa_M => z.2.2.2.2) (Sum.elim (fun z : Int32 × Int32 × qa_M => z.2.2) (fun z : qa_M => z))) z)) E (fun rz E => ?_)
      exact qfr_tr e_h (qfr_sub (qsub_c (List.mem_of_getElem? (i := 0) rfl) (qsub_c (List.mem_of_getElem? (i := 1) rfl) (qsub_c (List.mem_of_getElem? (i := 2) rfl) qsub_nil))) (fr_X1_groupSquares_b70 x1 x2 x3 x4 h E))
    · obtain ⟨v64, -, E⟩ := qbd_el E
      exact qsome_f (Q := fun z => qfr wf_X1_groupSquares_b44 h ((Sum.elim (fun z : Int32 × Int32 × Int32 × Int32 × qa_M => z.2.2.2.2) (Sum.elim (fun z : Int32 × Int32 × qa_M => z.2.2) (fun z : qa_M => z))) z)) E e_h
theorem fr_X1_groupSquares_b44_loop (x1 : Int32) (x2 : Int32) (x3 : Int32) (x4 : Int32) (h : qa_M) {z : ((Int32 × Int32 × qa_M) ⊕ qa_M)} (E : f_X1_groupSquares_b44_loop x1 x2 x3 x4 h = some z) : qfr wf_X1_groupSquares_b44 h ((Sum.elim (fun z : Int32 × Int32 × qa_M => z.2.2) (fun z : qa_M => z)) z) :=
  qlp_ind (fun sz : Int32 × Int32 × Int32 × Int32 × qa_M => qfr wf_X1_groupSquares_b44 (sz.2.2.2.2) ((Sum.elim (fun z : Int32 × Int32 × qa_M => z.2.2) (fun z : qa_M => z)) z)) (fun sz E => fr_X1_groupSquares_b44 sz.1 sz.2.1 sz.2.2.1 sz.2.2.2.1 sz.2.2.2.2 E) (fun sz sz2 E ih => qfr_tr (fr_X1_groupSquares_b44 sz.1 sz.2.1 sz.2.2.1 sz.2.2.2.1 sz.2.2.2.2 E) ih) (x1, x2, x3, x4, h) E
def wf_X1_groupSquares_b23 : List (Nat × Nat) := [(34, 5), (38, 0), (39, 0)]
theorem fr_X1_groupSquares_b23 (x1 : Int32) (x2 : Int32) (h : qa_M) {z : ((Int32 × Int32 × qa_M) ⊕ qa_M)} (E : f_X1_groupSquares_b23 x1 x2 h = some z) : qfr wf_X1_groupSquares_b23 h ((Sum.elim (fun z : Int32 × Int32 × qa_M => z.2.2) (fun z : qa_M => z)) z) := by
  unfold f_X1_groupSquares_b23 at E
  have e_h : qfr wf_X1_groupSquares_b23 h h := qfr_rf
  rcases qif_el E with E | E
  · refine qup_f (Q := fun z => qfr wf_X1_groupSquares_b23 h ((Sum.elim (fun z : Int32 × Int32 × qa_M => z.2.2) (fun z : qa_M => z)) z)) E (fun rz E => ?_)
    exact qsome_f (Q := fun z => qfr wf_X1_groupSquares_b23 h ((fun z : qa_M => z) z)) E e_h
  · obtain ⟨-, E⟩ := qck_el E
    obtain ⟨v40, -, E⟩ := qbd_el E
    obtain ⟨v42, -, E⟩ := qbd_el E
    exact qfr_tr e_h (qfr_sub (qsub_c (List.mem_of_getElem? (i := 0) rfl) (qsub_c (List.mem_of_getElem? (i := 1) rfl) (qsub_c (List.mem_of_getElem? (i := 2) rfl) qsub_nil))) (fr_X1_groupSquares_b44_loop x1 x2 v40 v42 h E))
theorem fr_X1_groupSquares_b23_loop (x1 : Int32) (x2 : Int32) (h : qa_M) {z : qa_M} (E : f_X1_groupSquares_b23_loop x1 x2 h = some z) : qfr wf_X1_groupSquares_b23 h ((fun z : qa_M => z) z) :=
  qlp_ind (fun sz : Int32 × Int32 × qa_M => qfr wf_X1_groupSquares_b23 (sz.2.2) ((fun z : qa_M => z) z)) (fun sz E => fr_X1_groupSquares_b23 sz.1 sz.2.1 sz.2.2 E) (fun sz sz2 E ih => qfr_tr (fr_X1_groupSquares_b23 sz.1 sz.2.1 sz.2.2 E) ih) (x1, x2, h) E
def w_X1_groupSquares : List (Nat × Nat) := [(34, 5), (38, 0), (39, 0)]
theorem fr_X1_groupSquares (x1 : Int32) (h : qa_M) {z : qa_M} (E : m_X1_groupSquares x1 h = some z) : qfr w_X1_groupSquares h ((fun z : qa_M => z) z) := by
  unfold m_X1_groupSquares at E
  have e_h : qfr w_X1_groupSquares h h := qfr_rf
  obtain ⟨h2, q_h2, E⟩ := qbd_el E
  have e_h2 := qfr_Ik q_h2 (List.mem_of_getElem? (i := 0) rfl) e_h
  obtain ⟨-, E⟩ := qck_el E
  obtain ⟨h13, q_h13, E⟩ := qbd_el E
  have e_h13 := qfr_J0 q_h13 (List.mem_of_getElem? (i := 1) rfl) e_h2
  obtain ⟨-, E⟩ := qck_el E
  obtain ⟨h20, q_h20, E⟩ := qbd_el E
  have e_h20 := qfr_I0 q_h20 (List.mem_of_getElem? (i := 2) rfl) e_h13
  obtain ⟨v22, -, E⟩ := qbd_el E
  exact qfr_tr e_h20 (qfr_sub (qsub_c (List.mem_of_getElem? (i := 0) rfl) (qsub_c (List.mem_of_getElem? (i := 1) rfl) (qsub_c (List.mem_of_getElem? (i := 2) rfl) qsub_nil))) (fr_X1_groupSquares_b23_loop x1 v22 h20 E))
theorem fr_X7_placed (h : qa_M) {z : (Int32 × qa_M)} (E : m_X7_placed h = some z) : qfr wz h ((fun z : Int32 × qa_M => z.2) z) := by
  unfold m_X7_placed at E
  have e_h : qfr wz h h := qfr_rf
  exact qsome_f (Q := fun z => qfr wz h ((fun z : Int32 × qa_M => z.2) z)) E e_h
theorem fr_X7_placedSort (x1 : Int32) (h : qa_M) {z : (Int32 × qa_M)} (E : m_X7_placedSort x1 h = some z) : qfr wz h ((fun z : Int32 × qa_M => z.2) z) := by
  unfold m_X7_placedSort at E
  have e_h : qfr wz h h := qfr_rf
  obtain ⟨-, E⟩ := qck_el E
  exact qsome_f (Q := fun z => qfr wz h ((fun z : Int32 × qa_M => z.2) z)) E e_h
theorem fr_X7_placedAt (x1 : Int32) (h : qa_M) {z : (Int32 × qa_M)} (E : m_X7_placedAt x1 h = some z) : qfr wz h ((fun z : Int32 × qa_M => z.2) z) := by
  unfold m_X7_placedAt at E
  have e_h : qfr wz h h := qfr_rf
  obtain ⟨-, E⟩ := qck_el E
  exact qsome_f (Q := fun z => qfr wz h ((fun z : Int32 × qa_M => z.2) z)) E e_h
theorem fr_X1_fitting (x1 : Int32) (x2 : Int32) (x3 : Int32) (x4 : Int32) (h : qa_M) {z : (Int32 × qa_M)} (E : m_X1_fitting x1 x2 x3 x4 h = some z) : qfr wz h ((fun z : Int32 × qa_M => z.2) z) := by
  unfold m_X1_fitting at E
  have e_h : qfr wz h h := qfr_rf
  obtain ⟨-, E⟩ := qck_el E
  obtain ⟨-, E⟩ := qck_el E
  obtain ⟨-, E⟩ := qck_el E
  obtain ⟨-, E⟩ := qck_el E
  obtain ⟨-, E⟩ := qck_el E
  exact qsome_f (Q := fun z => qfr wz h ((fun z : Int32 × qa_M => z.2) z)) E e_h
def wf_X1_countLayings_b94 : List (Nat × Nat) := [(35, 0)]
theorem fr_X1_countLayings_b94 (x5 : Int32) (x6 : Int32) (x7 : Int32) (h : qa_M) {z : ((Int32 × Int32 × Int32 × qa_M) ⊕ qa_M)} (E : f_X1_countLayings_b94 x5 x6 x7 h = some z) : qfr wf_X1_countLayings_b94 h ((Sum.elim (fun z : Int32 × Int32 × Int32 × qa_M => z.2.2.2) (fun z : qa_M => z)) z) := by
  unfold f_X1_countLayings_b94 at E
  have e_h : qfr wf_X1_countLayings_b94 h h := qfr_rf
  rcases qif_el E with E | E
  · refine qup_f (Q := fun z => qfr wf_X1_countLayings_b94 h ((Sum.elim (fun z : Int32 × Int32 × Int32 × qa_M => z.2.2.2) (fun z : qa_M => z)) z)) E (fun rz E => ?_)
    exact qsome_f (Q := fun z => qfr wf_X1_countLayings_b94 h ((fun z : qa_M => z) z)) E e_h
  · obtain ⟨-, E⟩ := qck_el E
    obtain ⟨c115, h115, E0, E⟩ := qbn_el E
    have e_h115 := qfr_tr e_h (qfr_sub qsub_nil (fr_J13_bitCount_95d88 ((h.2.1 22 15) &&& (h.2.1 38 x7.toNatClampNeg)) h E0))
    obtain ⟨v118, -, E⟩ := qbd_el E
    obtain ⟨-, E⟩ := qck_el E
    obtain ⟨-, E⟩ := qck_el E
    obtain ⟨-, E⟩ := qck_el E
    obtain ⟨-, E⟩ := qck_el E
    obtain ⟨h152, q_h152, E⟩ := qbd_el E
    have e_h152 := qfr_I0 q_h152 (List.mem_of_getElem? (i := 0) rfl) e_h115
    obtain ⟨v153, -, E⟩ := qbd_el E
    exact qsome_f (Q := fun z => qfr wf_X1_countLayings_b94 h ((Sum.elim (fun z : Int32 × Int32 × Int32 × qa_M => z.2.2.2) (fun z : qa_M => z)) z)) E e_h152
theorem fr_X1_countLayings_b94_loop (x5 : Int32) (x6 : Int32) (x7 : Int32) (h : qa_M) {z : qa_M} (E : f_X1_countLayings_b94_loop x5 x6 x7 h = some z) : qfr wf_X1_countLayings_b94 h ((fun z : qa_M => z) z) :=
  qlp_ind (fun sz : Int32 × Int32 × Int32 × qa_M => qfr wf_X1_countLayings_b94 (sz.2.2.2) ((fun z : qa_M => z) z)) (fun sz E => fr_X1_countLayings_b94 sz.1 sz.2.1 sz.2.2.1 sz.2.2.2 E) (fun sz sz2 E ih => qfr_tr (fr_X1_countLayings_b94 sz.1 sz.2.1 sz.2.2.1 sz.2.2.2 E) ih) (x5, x6, x7, h) E
def wf_X1_countLayings_b69 : List (Nat × Nat) := [(35, 0)]
theorem fr_X1_countLayings_b69 (x2 : Int32) (x3 : Int32) (x4 : Int32) (h : qa_M) {z : qa_M} (E : f_X1_countLayings_b69 x2 x3 x4 h = some z) : qfr wf_X1_countLayings_b69 h ((fun z : qa_M => z) z) := by
  unfold f_X1_countLayings_b69 at E
  have e_h : qfr wf_X1_countLayings_b69 h h := qfr_rf
  obtain ⟨c75, h75, E0, E⟩ := qbn_el E
  have e_h75 := qfr_tr e_h (qfr_sub qsub_nil (fr_X1_fitting x2 x3 x4 (0 : Int32) h E0))
  obtain ⟨v78, -, E⟩ := qbd_el E
  obtain ⟨c86, h86, E0, E⟩ := qbn_el E
  have e_h86 := qfr_tr e_h75 (qfr_sub qsub_nil (fr_X1_fitting (-1 : Int32) x2 x3 x4 h75 E0))
  obtain ⟨v89, -, E⟩ := qbd_el E
  obtain ⟨v92, -, E⟩ := qbd_el E
  exact qfr_tr e_h86 (qfr_sub (qsub_c (List.mem_of_getElem? (i := 0) rfl) qsub_nil) (fr_X1_countLayings_b94_loop v78 v89 v92 h86 E))
def wf_X1_countLayings_b10 : List (Nat × Nat) := [(35, 0)]
theorem fr_X1_countLayings_b10 (x2 : Int32) (x3 : Int32) (x4 : Int32) (x5 : Int32) (h : qa_M) {z : ((Int32 × Int32 × Int32 × Int32 × qa_M) ⊕ qa_M)} (E : f_X1_countLayings_b10 x2 x3 x4 x5 h = some z) : qfr wf_X1_countLayings_b10 h ((Sum.elim (fun z : Int32 × Int32 × Int32 × Int32 × qa_M => z.2.2.2.2) (fun z : qa_M => z)) z) := by
  unfold f_X1_countLayings_b10 at E
  have e_h : qfr wf_X1_countLayings_b10 h h := qfr_rf
  obtain ⟨c13, h13, E0, E⟩ := qbn_el E
  have e_h13 := qfr_tr e_h (qfr_sub qsub_nil (fr_X7_placed h E0))
  rcases qif_el E with E | E
  · refine qup_f (Q := fun z => qfr wf_X1_countLayings_b10 h ((Sum.elim (fun z : Int32 × Int32 × Int32 × Int32 × qa_M => z.2.2.2.2) (fun z : qa_M => z)) z)) E (fun rz E => ?_)
    exact qfr_tr e_h13 (qfr_sub (qsub_c (List.mem_of_getElem? (i := 0) rfl) qsub_nil) (fr_X1_countLayings_b69 x2 x3 x4 h13 E))
  · obtain ⟨c26, h26, E0, E⟩ := qbn_el E
    have e_h26 := qfr_tr e_h13 (qfr_sub qsub_nil (fr_X7_placedSort x5 h13 E0))
    obtain ⟨c35, h35, E0, E⟩ := qbn_el E
    have e_h35 := qfr_tr e_h26 (qfr_sub qsub_nil (fr_X7_placedAt x5 h26 E0))
    obtain ⟨-, E⟩ := qck_el E
    obtain ⟨v40, -, E⟩ := qbd_el E
    obtain ⟨v49, -, E⟩ := qbd_el E
    obtain ⟨v57, -, E⟩ := qbd_el E
    obtain ⟨v62, -, E⟩ := qbd_el E
    obtain ⟨v63, -, E⟩ := qbd_el E
    exact qsome_f (Q := fun z => qfr wf_X1_countLayings_b10 h ((Sum.elim (fun z : Int32 × Int32 × Int32 × Int32 × qa_M => z.2.2.2.2) (fun z : qa_M => z)) z)) E e_h35
theorem fr_X1_countLayings_b10_loop (x2 : Int32) (x3 : Int32) (x4 : Int32) (x5 : Int32) (h : qa_M) {z : qa_M} (E : f_X1_countLayings_b10_loop x2 x3 x4 x5 h = some z) : qfr wf_X1_countLayings_b10 h ((fun z : qa_M => z) z) :=
  qlp_ind (fun sz : Int32 × Int32 × Int32 × Int32 × qa_M => qfr wf_X1_countLayings_b10 (sz.2.2.2.2) ((fun z : qa_M => z) z)) (fun sz E => fr_X1_countLayings_b10 sz.1 sz.2.1 sz.2.2.1 sz.2.2.2.1 sz.2.2.2.2 E) (fun sz sz2 E ih => qfr_tr (fr_X1_countLayings_b10 sz.1 sz.2.1 sz.2.2.1 sz.2.2.2.1 sz.2.2.2.2 E) ih) (x2, x3, x4, x5, h) E
def w_X1_countLayings : List (Nat × Nat) := [(35, 0)]
theorem fr_X1_countLayings (h : qa_M) {z : qa_M} (E : m_X1_countLayings h = some z) : qfr w_X1_countLayings h ((fun z : qa_M => z) z) := by
  unfold m_X1_countLayings at E
  have e_h : qfr w_X1_countLayings h h := qfr_rf
  obtain ⟨v1, -, E⟩ := qbd_el E
  obtain ⟨v3, -, E⟩ := qbd_el E
  obtain ⟨v5, -, E⟩ := qbd_el E
  obtain ⟨v8, -, E⟩ := qbd_el E
  exact qfr_tr e_h (qfr_sub (qsub_c (List.mem_of_getElem? (i := 0) rfl) qsub_nil) (fr_X1_countLayings_b10_loop v1 v3 v5 v8 h E))
theorem fr_X1_addSupersets_b50 (x1 : Int32) (h : qa_M) {z : ((Int32 × qa_M) ⊕ qa_M)} (E : f_X1_addSupersets_b50 x1 h = some z) : qfr wz h ((Sum.elim (fun z : Int32 × qa_M => z.2) (fun z : qa_M => z)) z) := by
  unfold f_X1_addSupersets_b50 at E
  have e_h : qfr wz h h := qfr_rf
  obtain ⟨v50, -, E⟩ := qbd_el E
  exact qsome_f (Q := fun z => qfr wz h ((Sum.elim (fun z : Int32 × qa_M => z.2) (fun z : qa_M => z)) z)) E e_h
theorem fr_X1_addSupersets_b44 (x1 : Int32) (x2 : Int32) (h : qa_M) {z : ((Int32 × Int32 × qa_M) ⊕ ((Int32 × qa_M) ⊕ qa_M))} (E : f_X1_addSupersets_b44 x1 x2 h = some z) : qfr wz h ((Sum.elim (fun z : Int32 × Int32 × qa_M => z.2.2) (Sum.elim (fun z : Int32 × qa_M => z.2) (fun z : qa_M => z))) z) := by
  unfold f_X1_addSupersets_b44 at E
  have e_h : qfr wz h h := qfr_rf
  obtain ⟨v44, -, E⟩ := qbd_el E
  exact qsome_f (Q := fun z => qfr wz h ((Sum.elim (fun z : Int32 × Int32 × qa_M => z.2.2) (Sum.elim (fun z : Int32 × qa_M => z.2) (fun z : qa_M => z))) z)) E e_h
def wf_X1_addSupersets_b10 : List (Nat × Nat) := [(35, 0)]
theorem fr_X1_addSupersets_b10 (x1 : Int32) (x2 : Int32) (h : qa_M) {z : ((Int32 × Int32 × qa_M) ⊕ ((Int32 × qa_M) ⊕ qa_M))} (E : f_X1_addSupersets_b10 x1 x2 h = some z) : qfr wf_X1_addSupersets_b10 h ((Sum.elim (fun z : Int32 × Int32 × qa_M => z.2.2) (Sum.elim (fun z : Int32 × qa_M => z.2) (fun z : qa_M => z))) z) := by
  unfold f_X1_addSupersets_b10 at E
  have e_h : qfr wf_X1_addSupersets_b10 h h := qfr_rf
  rcases qif_el E with E | E
  · refine qup_f (Q := fun z => qfr wf_X1_addSupersets_b10 h ((Sum.elim (fun z : Int32 × Int32 × qa_M => z.2.2) (Sum.elim (fun z : Int32 × qa_M => z.2) (fun z : qa_M => z))) z)) E (fun rz E => ?_)
    exact qfr_tr e_h (qfr_sub qsub_nil (fr_X1_addSupersets_b50 x1 h E))
  · rcases qif_el E with E | E
    · obtain ⟨-, E⟩ := qck_el E
      obtain ⟨-, E⟩ := qck_el E
      obtain ⟨-, E⟩ := qck_el E
      obtain ⟨h43, q_h43, E⟩ := qbd_el E
      have e_h43 := qfr_I0 q_h43 (List.mem_of_getElem? (i := 0) rfl) e_h
      exact qfr_tr e_h43 (qfr_sub qsub_nil (fr_X1_addSupersets_b44 x1 x2 h43 E))
    · exact qfr_tr e_h (qfr_sub qsub_nil (fr_X1_addSupersets_b44 x1 x2 h E))
theorem fr_X1_addSupersets_b10_loop (x1 : Int32) (x2 : Int32) (h : qa_M) {z : ((Int32 × qa_M) ⊕ qa_M)} (E : f_X1_addSupersets_b10_loop x1 x2 h = some z) : qfr wf_X1_addSupersets_b10 h ((Sum.elim (fun z : Int32 × qa_M => z.2) (fun z : qa_M => z)) z) :=
  qlp_ind (fun sz : Int32 × Int32 × qa_M => qfr wf_X1_addSupersets_b10 (sz.2.2) ((Sum.elim (fun z : Int32 × qa_M => z.2) (fun z : qa_M => z)) z)) (fun sz E => fr_X1_addSupersets_b10 sz.1 sz.2.1 sz.2.2 E) (fun sz sz2 E ih => qfr_tr (fr_X1_addSupersets_b10 sz.1 sz.2.1 sz.2.2 E) ih) (x1, x2, h) E
def wf_X1_addSupersets_b2 : List (Nat × Nat) := [(35, 0)]
theorem fr_X1_addSupersets_b2 (x1 : Int32) (h : qa_M) {z : ((Int32 × qa_M) ⊕ qa_M)} (E : f_X1_addSupersets_b2 x1 h = some z) : qfr wf_X1_addSupersets_b2 h ((Sum.elim (fun z : Int32 × qa_M => z.2) (fun z : qa_M => z)) z) := by
  unfold f_X1_addSupersets_b2 at E
  have e_h : qfr wf_X1_addSupersets_b2 h h := qfr_rf
  rcases qif_el E with E | E
  · refine qup_f (Q := fun z => qfr wf_X1_addSupersets_b2 h ((Sum.elim (fun z : Int32 × qa_M => z.2) (fun z : qa_M => z)) z)) E (fun rz E => ?_)
    exact qsome_f (Q := fun z => qfr wf_X1_addSupersets_b2 h ((fun z : qa_M => z) z)) E e_h
  · obtain ⟨v9, -, E⟩ := qbd_el E
    exact qfr_tr e_h (qfr_sub (qsub_c (List.mem_of_getElem? (i := 0) rfl) qsub_nil) (fr_X1_addSupersets_b10_loop x1 v9 h E))
theorem fr_X1_addSupersets_b2_loop (x1 : Int32) (h : qa_M) {z : qa_M} (E : f_X1_addSupersets_b2_loop x1 h = some z) : qfr wf_X1_addSupersets_b2 h ((fun z : qa_M => z) z) :=
  qlp_ind (fun sz : Int32 × qa_M => qfr wf_X1_addSupersets_b2 (sz.2) ((fun z : qa_M => z) z)) (fun sz E => fr_X1_addSupersets_b2 sz.1 sz.2 E) (fun sz sz2 E ih => qfr_tr (fr_X1_addSupersets_b2 sz.1 sz.2 E) ih) (x1, h) E
def w_X1_addSupersets : List (Nat × Nat) := [(35, 0)]
theorem fr_X1_addSupersets (h : qa_M) {z : qa_M} (E : m_X1_addSupersets h = some z) : qfr w_X1_addSupersets h ((fun z : qa_M => z) z) := by
  unfold m_X1_addSupersets at E
  have e_h : qfr w_X1_addSupersets h h := qfr_rf
  obtain ⟨v1, -, E⟩ := qbd_el E
  exact qfr_tr e_h (qfr_sub (qsub_c (List.mem_of_getElem? (i := 0) rfl) qsub_nil) (fr_X1_addSupersets_b2_loop v1 h E))
def wf_X1_fill_b68 : List (Nat × Nat) := [(35, 0)]
theorem fr_X1_fill_b68 (h : qa_M) {z : qa_M} (E : f_X1_fill_b68 h = some z) : qfr wf_X1_fill_b68 h ((fun z : qa_M => z) z) := by
  unfold f_X1_fill_b68 at E
  have e_h : qfr wf_X1_fill_b68 h h := qfr_rf
  obtain ⟨h69, E0, E⟩ := qbv_el E
  have e_h69 := qfr_tr e_h (qfr_sub (qsub_c (List.mem_of_getElem? (i := 0) rfl) qsub_nil) (fr_X1_addSupersets h E0))
  exact qsome_f (Q := fun z => qfr wf_X1_fill_b68 h ((fun z : qa_M => z) z)) E e_h69
def wf_X1_fill_b43 : List (Nat × Nat) := [(22, 13), (22, 16), (31, 0), (32, 0), (35, 0)]
theorem fr_X1_fill_b43 (x4 : Int32) (h : qa_M) {z : ((Int32 × qa_M) ⊕ qa_M)} (E : f_X1_fill_b43 x4 h = some z) : qfr wf_X1_fill_b43 h ((Sum.elim (fun z : Int32 × qa_M => z.2) (fun z : qa_M => z)) z) := by
  unfold f_X1_fill_b43 at E
  have e_h : qfr wf_X1_fill_b43 h h := qfr_rf
  rcases qif_el E with E | E
  · refine qup_f (Q := fun z => qfr wf_X1_fill_b43 h ((Sum.elim (fun z : Int32 × qa_M => z.2) (fun z : qa_M => z)) z)) E (fun rz E => ?_)
    exact qfr_tr e_h (qfr_sub (qsub_c (List.mem_of_getElem? (i := 4) rfl) qsub_nil) (fr_X1_fill_b68 h E))
  · obtain ⟨c51, h51, E0, E⟩ := qbn_el E
    have e_h51 := qfr_tr e_h (qfr_sub (qsub_c (List.mem_of_getElem? (i := 0) rfl) (qsub_c (List.mem_of_getElem? (i := 1) rfl) (qsub_c (List.mem_of_getElem? (i := 2) rfl) (qsub_c (List.mem_of_getElem? (i := 3) rfl) qsub_nil)))) (fr_X7_step h E0))
    rcases qif_el E with E | E
    · refine qup_f (Q := fun z => qfr wf_X1_fill_b43 h ((Sum.elim (fun z : Int32 × qa_M => z.2) (fun z : qa_M => z)) z)) E (fun rz E => ?_)
      exact qfr_tr e_h51 (qfr_sub (qsub_c (List.mem_of_getElem? (i := 4) rfl) qsub_nil) (fr_X1_fill_b68 h51 E))
    · obtain ⟨h59, E0, E⟩ := qbv_el E
      have e_h59 := qfr_tr e_h51 (qfr_sub (qsub_c (List.mem_of_getElem? (i := 4) rfl) qsub_nil) (fr_X1_countLayings h51 E0))
      obtain ⟨v62, -, E⟩ := qbd_el E
      exact qsome_f (Q := fun z => qfr wf_X1_fill_b43 h ((Sum.elim (fun z : Int32 × qa_M => z.2) (fun z : qa_M => z)) z)) E e_h59
theorem fr_X1_fill_b43_loop (x4 : Int32) (h : qa_M) {z : qa_M} (E : f_X1_fill_b43_loop x4 h = some z) : qfr wf_X1_fill_b43 h ((fun z : qa_M => z) z) :=
  qlp_ind (fun sz : Int32 × qa_M => qfr wf_X1_fill_b43 (sz.2) ((fun z : qa_M => z) z)) (fun sz E => fr_X1_fill_b43 sz.1 sz.2 E) (fun sz sz2 E ih => qfr_tr (fr_X1_fill_b43 sz.1 sz.2 E) ih) (x4, h) E
def w_X1_fill : List (Nat × Nat) := [(22, 8), (22, 9), (22, 13), (22, 16), (27, 0), (28, 0), (29, 0), (30, 0), (31, 0), (32, 0), (34, 1), (34, 5), (35, 0), (36, 0), (37, 0), (38, 0), (39, 0)]
theorem fr_X1_fill (x3 : Int32) (h : qa_M) {z : qa_M} (E : m_X1_fill x3 h = some z) : qfr w_X1_fill h ((fun z : qa_M => z) z) := by
  unfold m_X1_fill at E
  have e_h : qfr w_X1_fill h h := qfr_rf
  rcases qif_el E with E | E
  · exact qsome_f (Q := fun z => qfr w_X1_fill h ((fun z : qa_M => z) z)) E e_h
  · obtain ⟨h11, q_h11, E⟩ := qbd_el E
    have e_h11 := qfr_Ik q_h11 (List.mem_of_getElem? (i := 10) rfl) e_h
    obtain ⟨h16, E0, E⟩ := qbv_el E
    have e_h16 := qfr_tr e_h11 (qfr_sub (qsub_c (List.mem_of_getElem? (i := 13) rfl) (qsub_c (List.mem_of_getElem? (i := 14) rfl) qsub_nil)) (fr_X1_sortNotes h11 E0))
    obtain ⟨h24, E0, E⟩ := qbv_el E
    have e_h24 := qfr_tr e_h16 (qfr_sub (qsub_c (List.mem_of_getElem? (i := 12) rfl) qsub_nil) (fr_J7_fill_53178 35 (0 : Int32) h16 E0))
    obtain ⟨h29, E0, E⟩ := qbv_el E
    have e_h29 := qfr_tr e_h24 (qfr_sub (qsub_c (List.mem_of_getElem? (i := 0) rfl) (qsub_c (List.mem_of_getElem? (i := 1) rfl) (qsub_c (List.mem_of_getElem? (i := 2) rfl) (qsub_c (List.mem_of_getElem? (i := 4) rfl) (qsub_c (List.mem_of_getElem? (i := 5) rfl) (qsub_c (List.mem_of_getElem? (i := 6) rfl) (qsub_c (List.mem_of_getElem? (i := 7) rfl) (qsub_c (List.mem_of_getElem? (i := 9) rfl) qsub_nil)))))))) (fr_X7_start (0 : Int32) h24 E0))
    obtain ⟨c34, h34, E0, E⟩ := qbn_el E
    have e_h34 := qfr_tr e_h29 (qfr_sub qsub_nil (fr_X7_lastSort h29 E0))
    obtain ⟨h37, E0, E⟩ := qbv_el E
    have e_h37 := qfr_tr e_h34 (qfr_sub (qsub_c (List.mem_of_getElem? (i := 11) rfl) (qsub_c (List.mem_of_getElem? (i := 15) rfl) (qsub_c (List.mem_of_getElem? (i := 16) rfl) qsub_nil))) (fr_X1_groupSquares c34 h34 E0))
    obtain ⟨v41, -, E⟩ := qbd_el E
    exact qfr_tr e_h37 (qfr_sub (qsub_c (List.mem_of_getElem? (i := 2) rfl) (qsub_c (List.mem_of_getElem? (i := 3) rfl) (qsub_c (List.mem_of_getElem? (i := 8) rfl) (qsub_c (List.mem_of_getElem? (i := 9) rfl) (qsub_c (List.mem_of_getElem? (i := 12) rfl) qsub_nil))))) (fr_X1_fill_b43_loop v41 h37 E))
def w_X11_countAllSets : List (Nat × Nat) := [(0, 15), (22, 5), (22, 8), (22, 9), (22, 13), (22, 16), (24, 0), (25, 0), (26, 0), (27, 0), (28, 0), (29, 0), (30, 0), (31, 0), (32, 0), (34, 1), (34, 5), (35, 0), (36, 0), (37, 0), (38, 0), (39, 0), (88, 0), (90, 0), (91, 0), (97, 0), (99, 0), (100, 0), (106, 0), (108, 0), (109, 0), (115, 0), (117, 0), (118, 0)]
theorem fr_X11_countAllSets (h : qa_M) {z : qa_M} (E : m_X11_countAllSets h = some z) : qfr w_X11_countAllSets h ((fun z : qa_M => z) z) := by
  unfold m_X11_countAllSets at E
  have e_h : qfr w_X11_countAllSets h h := qfr_rf
  obtain ⟨h1, E0, E⟩ := qbv_el E
  have e_h1 := qfr_tr e_h (qfr_sub (qsub_c (List.mem_of_getElem? (i := 0) rfl) (qsub_c (List.mem_of_getElem? (i := 1) rfl) (qsub_c (List.mem_of_getElem? (i := 6) rfl) (qsub_c (List.mem_of_getElem? (i := 7) rfl) (qsub_c (List.mem_of_getElem? (i := 8) rfl) (qsub_c (List.mem_of_getElem? (i := 22) rfl) (qsub_c (List.mem_of_getElem? (i := 23) rfl) (qsub_c (List.mem_of_getElem? (i := 24) rfl) (qsub_c (List.mem_of_getElem? (i := 25) rfl) (qsub_c (List.mem_of_getElem? (i := 26) rfl) (qsub_c (List.mem_of_getElem? (i := 27) rfl) (qsub_c (List.mem_of_getElem? (i := 28) rfl) (qsub_c (List.mem_of_getElem? (i := 29) rfl) (qsub_c (List.mem_of_getElem? (i := 30) rfl) (qsub_c (List.mem_of_getElem? (i := 31) rfl) (qsub_c (List.mem_of_getElem? (i := 32) rfl) (qsub_c (List.mem_of_getElem? (i := 33) rfl) qsub_nil))))))))))))))))) (fr_X11_prepare h E0))
  obtain ⟨h20, E0, E⟩ := qbv_el E
  have e_h20 := qfr_tr e_h1 (qfr_sub (qsub_c (List.mem_of_getElem? (i := 2) rfl) (qsub_c (List.mem_of_getElem? (i := 3) rfl) (qsub_c (List.mem_of_getElem? (i := 4) rfl) (qsub_c (List.mem_of_getElem? (i := 5) rfl) (qsub_c (List.mem_of_getElem? (i := 9) rfl) (qsub_c (List.mem_of_getElem? (i := 10) rfl) (qsub_c (List.mem_of_getElem? (i := 11) rfl) (qsub_c (List.mem_of_getElem? (i := 12) rfl) (qsub_c (List.mem_of_getElem? (i := 13) rfl) (qsub_c (List.mem_of_getElem? (i := 14) rfl) (qsub_c (List.mem_of_getElem? (i := 15) rfl) (qsub_c (List.mem_of_getElem? (i := 16) rfl) (qsub_c (List.mem_of_getElem? (i := 17) rfl) (qsub_c (List.mem_of_getElem? (i := 18) rfl) (qsub_c (List.mem_of_getElem? (i := 19) rfl) (qsub_c (List.mem_of_getElem? (i := 20) rfl) (qsub_c (List.mem_of_getElem? (i := 21) rfl) qsub_nil))))))))))))))))) (fr_X1_fill (h1.1 0 13) h1 E0))
  exact qsome_f (Q := fun z => qfr w_X11_countAllSets h ((fun z : qa_M => z) z)) E e_h20
theorem fr_J6_bitCount_0f7a4 (x0 : Int32) (h : qa_M) {z : (Int32 × qa_M)} (E : m_J6_bitCount_0f7a4 x0 h = some z) : qfr wz h ((fun z : Int32 × qa_M => z.2) z) := by
  unfold m_J6_bitCount_0f7a4 at E
  have e_h : qfr wz h h := qfr_rf
  obtain ⟨v9, -, E⟩ := qbd_el E
  obtain ⟨v23, -, E⟩ := qbd_el E
  obtain ⟨v33, -, E⟩ := qbd_el E
  obtain ⟨v40, -, E⟩ := qbd_el E
  obtain ⟨v47, -, E⟩ := qbd_el E
  exact qsome_f (Q := fun z => qfr wz h ((fun z : Int32 × qa_M => z.2) z)) E e_h
theorem fr_X1_isFewer_b15 (h : qa_M) {z : (Int32 × qa_M)} (E : f_X1_isFewer_b15 h = some z) : qfr wz h ((fun z : Int32 × qa_M => z.2) z) := by
  unfold f_X1_isFewer_b15 at E
  have e_h : qfr wz h h := qfr_rf
  exact qsome_f (Q := fun z => qfr wz h ((fun z : Int32 × qa_M => z.2) z)) E e_h
theorem fr_X1_isFewer (x0 : Int32) (x1 : Int32) (h : qa_M) {z : (Int32 × qa_M)} (E : m_X1_isFewer x0 x1 h = some z) : qfr wz h ((fun z : Int32 × qa_M => z.2) z) := by
  unfold m_X1_isFewer at E
  have e_h : qfr wz h h := qfr_rf
  rcases qif_el E with E | E
  · exact qfr_tr e_h (qfr_sub qsub_nil (fr_X1_isFewer_b15 h E))
  · obtain ⟨c5, h5, E0, E⟩ := qbn_el E
    have e_h5 := qfr_tr e_h (qfr_sub qsub_nil (fr_J6_bitCount_0f7a4 x0 h E0))
    obtain ⟨c9, h9, E0, E⟩ := qbn_el E
    have e_h9 := qfr_tr e_h5 (qfr_sub qsub_nil (fr_J6_bitCount_0f7a4 x1 h5 E0))
    rcases qif_el E with E | E
    · exact qsome_f (Q := fun z => qfr wz h ((fun z : Int32 × qa_M => z.2) z)) E e_h9
    · exact qfr_tr e_h9 (qfr_sub qsub_nil (fr_X1_isFewer_b15 h9 E))
theorem fr_X1_fewestThatSayAsMuch_b42 (x1 : Int32) (x2 : Int32) (x3 : Int32) (h : qa_M) {z : ((Int32 × Int32 × Int32 × qa_M) ⊕ (Int32 × qa_M))} (E : f_X1_fewestThatSayAsMuch_b42 x1 x2 x3 h = some z) : qfr wz h ((Sum.elim (fun z : Int32 × Int32 × Int32 × qa_M => z.2.2.2) (fun z : Int32 × qa_M => z.2)) z) := by
  unfold f_X1_fewestThatSayAsMuch_b42 at E
  have e_h : qfr wz h h := qfr_rf
  obtain ⟨v42, -, E⟩ := qbd_el E
  exact qsome_f (Q := fun z => qfr wz h ((Sum.elim (fun z : Int32 × Int32 × Int32 × qa_M => z.2.2.2) (fun z : Int32 × qa_M => z.2)) z)) E e_h
theorem fr_X1_fewestThatSayAsMuch_b4 (x1 : Int32) (x2 : Int32) (x3 : Int32) (h : qa_M) {z : ((Int32 × Int32 × Int32 × qa_M) ⊕ (Int32 × qa_M))} (E : f_X1_fewestThatSayAsMuch_b4 x1 x2 x3 h = some z) : qfr wz h ((Sum.elim (fun z : Int32 × Int32 × Int32 × qa_M => z.2.2.2) (fun z : Int32 × qa_M => z.2)) z) := by
  unfold f_X1_fewestThatSayAsMuch_b4 at E
  have e_h : qfr wz h h := qfr_rf
  rcases qif_el E with E | E
  · refine qup_f (Q := fun z => qfr wz h ((Sum.elim (fun z : Int32 × Int32 × Int32 × qa_M => z.2.2.2) (fun z : Int32 × qa_M => z.2)) z)) E (fun rz E => ?_)
    exact qsome_f (Q := fun z => qfr wz h ((fun z : Int32 × qa_M => z.2) z)) E e_h
  · rcases qif_el E with E | E
    · obtain ⟨-, E⟩ := qck_el E
      obtain ⟨-, E⟩ := qck_el E
      rcases qif_el E with E | E
      · obtain ⟨c34, h34, E0, E⟩ := qbn_el E
        have e_h34 := qfr_tr e_h (qfr_sub qsub_nil (fr_X1_isFewer x3 x2 h E0))
        rcases qif_el E with E | E
        · exact qfr_tr e_h34 (qfr_sub qsub_nil (fr_X1_fewestThatSayAsMuch_b42 x1 x2 x3 h34 E))
        · obtain ⟨v41, -, E⟩ := qbd_el E
          exact qfr_tr e_h34 (qfr_sub qsub_nil (fr_X1_fewestThatSayAsMuch_b42 x1 v41 x3 h34 E))
      · exact qfr_tr e_h (qfr_sub qsub_nil (fr_X1_fewestThatSayAsMuch_b42 x1 x2 x3 h E))
    · exact qfr_tr e_h (qfr_sub qsub_nil (fr_X1_fewestThatSayAsMuch_b42 x1 x2 x3 h E))
theorem fr_X1_fewestThatSayAsMuch_b4_loop (x1 : Int32) (x2 : Int32) (x3 : Int32) (h : qa_M) {z : (Int32 × qa_M)} (E : f_X1_fewestThatSayAsMuch_b4_loop x1 x2 x3 h = some z) : qfr wz h ((fun z : Int32 × qa_M => z.2) z) :=
  qlp_ind (fun sz : Int32 × Int32 × Int32 × qa_M => qfr wz (sz.2.2.2) ((fun z : Int32 × qa_M => z.2) z)) (fun sz E => fr_X1_fewestThatSayAsMuch_b4 sz.1 sz.2.1 sz.2.2.1 sz.2.2.2 E) (fun sz sz2 E ih => qfr_tr (fr_X1_fewestThatSayAsMuch_b4 sz.1 sz.2.1 sz.2.2.1 sz.2.2.2 E) ih) (x1, x2, x3, h) E
theorem fr_X1_fewestThatSayAsMuch (x1 : Int32) (h : qa_M) {z : (Int32 × qa_M)} (E : m_X1_fewestThatSayAsMuch x1 h = some z) : qfr wz h ((fun z : Int32 × qa_M => z.2) z) := by
  unfold m_X1_fewestThatSayAsMuch at E
  have e_h : qfr wz h h := qfr_rf
  obtain ⟨v1, -, E⟩ := qbd_el E
  obtain ⟨v3, -, E⟩ := qbd_el E
  exact qfr_tr e_h (qfr_sub qsub_nil (fr_X1_fewestThatSayAsMuch_b4_loop x1 v1 v3 h E))
def w_X11_least : List (Nat × Nat) := [(0, 15), (22, 5), (22, 8), (22, 9), (22, 13), (22, 16), (24, 0), (25, 0), (26, 0), (27, 0), (28, 0), (29, 0), (30, 0), (31, 0), (32, 0), (34, 1), (34, 5), (35, 0), (36, 0), (37, 0), (38, 0), (39, 0), (88, 0), (90, 0), (91, 0), (97, 0), (99, 0), (100, 0), (106, 0), (108, 0), (109, 0), (115, 0), (117, 0), (118, 0)]
theorem fr_X11_least (x1 : Int32) (h : qa_M) {z : (Int32 × qa_M)} (E : m_X11_least x1 h = some z) : qfr w_X11_least h ((fun z : Int32 × qa_M => z.2) z) := by
  unfold m_X11_least at E
  have e_h : qfr w_X11_least h h := qfr_rf
  obtain ⟨c2, h2, E0, E⟩ := qbn_el E
  have e_h2 := qfr_tr e_h (qfr_sub qsub_nil (fr_X11_known x1 h E0))
  rcases qif_el E with E | E
  · exact qsome_f (Q := fun z => qfr w_X11_least h ((fun z : Int32 × qa_M => z.2) z)) E e_h2
  · obtain ⟨h11, E0, E⟩ := qbv_el E
    have e_h11 := qfr_tr e_h2 (qfr_sub (qsub_c (List.mem_of_getElem? (i := 0) rfl) (qsub_c (List.mem_of_getElem? (i := 1) rfl) (qsub_c (List.mem_of_getElem? (i := 2) rfl) (qsub_c (List.mem_of_getElem? (i := 3) rfl) (qsub_c (List.mem_of_getElem? (i := 4) rfl) (qsub_c (List.mem_of_getElem? (i := 5) rfl) (qsub_c (List.mem_of_getElem? (i := 6) rfl) (qsub_c (List.mem_of_getElem? (i := 7) rfl) (qsub_c (List.mem_of_getElem? (i := 8) rfl) (qsub_c (List.mem_of_getElem? (i := 9) rfl) (qsub_c (List.mem_of_getElem? (i := 10) rfl) (qsub_c (List.mem_of_getElem? (i := 11) rfl) (qsub_c (List.mem_of_getElem? (i := 12) rfl) (qsub_c (List.mem_of_getElem? (i := 13) rfl) (qsub_c (List.mem_of_getElem? (i := 14) rfl) (qsub_c (List.mem_of_getElem? (i := 15) rfl) (qsub_c (List.mem_of_getElem? (i := 16) rfl) (qsub_c (List.mem_of_getElem? (i := 17) rfl) (qsub_c (List.mem_of_getElem? (i := 18) rfl) (qsub_c (List.mem_of_getElem? (i := 19) rfl) (qsub_c (List.mem_of_getElem? (i := 20) rfl) (qsub_c (List.mem_of_getElem? (i := 21) rfl) (qsub_c (List.mem_of_getElem? (i := 22) rfl) (qsub_c (List.mem_of_getElem? (i := 23) rfl) (qsub_c (List.mem_of_getElem? (i := 24) rfl) (qsub_c (List.mem_of_getElem? (i := 25) rfl) (qsub_c (List.mem_of_getElem? (i := 26) rfl) (qsub_c (List.mem_of_getElem? (i := 27) rfl) (qsub_c (List.mem_of_getElem? (i := 28) rfl) (qsub_c (List.mem_of_getElem? (i := 29) rfl) (qsub_c (List.mem_of_getElem? (i := 30) rfl) (qsub_c (List.mem_of_getElem? (i := 31) rfl) (qsub_c (List.mem_of_getElem? (i := 32) rfl) (qsub_c (List.mem_of_getElem? (i := 33) rfl) qsub_nil)))))))))))))))))))))))))))))))))) (fr_X11_countAllSets h2 E0))
    obtain ⟨c19, h19, E0, E⟩ := qbn_el E
    have e_h19 := qfr_tr e_h11 (qfr_sub qsub_nil (fr_X1_fewestThatSayAsMuch x1 h11 E0))
    exact qsome_f (Q := fun z => qfr w_X11_least h ((fun z : Int32 × qa_M => z.2) z)) E e_h19
theorem fr_X1_fewestToLeaveOut_b39 (x1 : Int32) (x2 : Int32) (x3 : Int32) (h : qa_M) {z : ((Int32 × Int32 × Int32 × qa_M) ⊕ (Int32 × qa_M))} (E : f_X1_fewestToLeaveOut_b39 x1 x2 x3 h = some z) : qfr wz h ((Sum.elim (fun z : Int32 × Int32 × Int32 × qa_M => z.2.2.2) (fun z : Int32 × qa_M => z.2)) z) := by
  unfold f_X1_fewestToLeaveOut_b39 at E
  have e_h : qfr wz h h := qfr_rf
  obtain ⟨v39, -, E⟩ := qbd_el E
  exact qsome_f (Q := fun z => qfr wz h ((Sum.elim (fun z : Int32 × Int32 × Int32 × qa_M => z.2.2.2) (fun z : Int32 × qa_M => z.2)) z)) E e_h
theorem fr_X1_fewestToLeaveOut_b5 (x1 : Int32) (x2 : Int32) (x3 : Int32) (h : qa_M) {z : ((Int32 × Int32 × Int32 × qa_M) ⊕ (Int32 × qa_M))} (E : f_X1_fewestToLeaveOut_b5 x1 x2 x3 h = some z) : qfr wz h ((Sum.elim (fun z : Int32 × Int32 × Int32 × qa_M => z.2.2.2) (fun z : Int32 × qa_M => z.2)) z) := by
  unfold f_X1_fewestToLeaveOut_b5 at E
  have e_h : qfr wz h h := qfr_rf
  rcases qif_el E with E | E
  · refine qup_f (Q := fun z => qfr wz h ((Sum.elim (fun z : Int32 × Int32 × Int32 × qa_M => z.2.2.2) (fun z : Int32 × qa_M => z.2)) z)) E (fun rz E => ?_)
    exact qsome_f (Q := fun z => qfr wz h ((fun z : Int32 × qa_M => z.2) z)) E e_h
  · rcases qif_el E with E | E
    · obtain ⟨-, E⟩ := qck_el E
      rcases qif_el E with E | E
      · exact qfr_tr e_h (qfr_sub qsub_nil (fr_X1_fewestToLeaveOut_b39 x1 x2 x3 h E))
      · obtain ⟨c31, h31, E0, E⟩ := qbn_el E
        have e_h31 := qfr_tr e_h (qfr_sub qsub_nil (fr_X1_isFewer x3 x2 h E0))
        rcases qif_el E with E | E
        · exact qfr_tr e_h31 (qfr_sub qsub_nil (fr_X1_fewestToLeaveOut_b39 x1 x2 x3 h31 E))
        · obtain ⟨v38, -, E⟩ := qbd_el E
          exact qfr_tr e_h31 (qfr_sub qsub_nil (fr_X1_fewestToLeaveOut_b39 x1 v38 x3 h31 E))
    · exact qfr_tr e_h (qfr_sub qsub_nil (fr_X1_fewestToLeaveOut_b39 x1 x2 x3 h E))
theorem fr_X1_fewestToLeaveOut_b5_loop (x1 : Int32) (x2 : Int32) (x3 : Int32) (h : qa_M) {z : (Int32 × qa_M)} (E : f_X1_fewestToLeaveOut_b5_loop x1 x2 x3 h = some z) : qfr wz h ((fun z : Int32 × qa_M => z.2) z) :=
  qlp_ind (fun sz : Int32 × Int32 × Int32 × qa_M => qfr wz (sz.2.2.2) ((fun z : Int32 × qa_M => z.2) z)) (fun sz E => fr_X1_fewestToLeaveOut_b5 sz.1 sz.2.1 sz.2.2.1 sz.2.2.2 E) (fun sz sz2 E ih => qfr_tr (fr_X1_fewestToLeaveOut_b5 sz.1 sz.2.1 sz.2.2.1 sz.2.2.2 E) ih) (x1, x2, x3, h) E
theorem fr_X1_fewestToLeaveOut (x1 : Int32) (h : qa_M) {z : (Int32 × qa_M)} (E : m_X1_fewestToLeaveOut x1 h = some z) : qfr wz h ((fun z : Int32 × qa_M => z.2) z) := by
  unfold m_X1_fewestToLeaveOut at E
  have e_h : qfr wz h h := qfr_rf
  obtain ⟨v2, -, E⟩ := qbd_el E
  obtain ⟨v4, -, E⟩ := qbd_el E
  exact qfr_tr e_h (qfr_sub qsub_nil (fr_X1_fewestToLeaveOut_b5_loop x1 v2 v4 h E))
def w_X11_careless : List (Nat × Nat) := [(0, 15), (22, 5), (22, 8), (22, 9), (22, 13), (22, 16), (24, 0), (25, 0), (26, 0), (27, 0), (28, 0), (29, 0), (30, 0), (31, 0), (32, 0), (34, 1), (34, 5), (35, 0), (36, 0), (37, 0), (38, 0), (39, 0), (88, 0), (90, 0), (91, 0), (97, 0), (99, 0), (100, 0), (106, 0), (108, 0), (109, 0), (115, 0), (117, 0), (118, 0)]
theorem fr_X11_careless (x1 : Int32) (h : qa_M) {z : (Int32 × qa_M)} (E : m_X11_careless x1 h = some z) : qfr w_X11_careless h ((fun z : Int32 × qa_M => z.2) z) := by
  unfold m_X11_careless at E
  have e_h : qfr w_X11_careless h h := qfr_rf
  obtain ⟨c2, h2, E0, E⟩ := qbn_el E
  have e_h2 := qfr_tr e_h (qfr_sub qsub_nil (fr_X11_known x1 h E0))
  rcases qif_el E with E | E
  · exact qsome_f (Q := fun z => qfr w_X11_careless h ((fun z : Int32 × qa_M => z.2) z)) E e_h2
  · obtain ⟨h11, E0, E⟩ := qbv_el E
    have e_h11 := qfr_tr e_h2 (qfr_sub (qsub_c (List.mem_of_getElem? (i := 0) rfl) (qsub_c (List.mem_of_getElem? (i := 1) rfl) (qsub_c (List.mem_of_getElem? (i := 2) rfl) (qsub_c (List.mem_of_getElem? (i := 3) rfl) (qsub_c (List.mem_of_getElem? (i := 4) rfl) (qsub_c (List.mem_of_getElem? (i := 5) rfl) (qsub_c (List.mem_of_getElem? (i := 6) rfl) (qsub_c (List.mem_of_getElem? (i := 7) rfl) (qsub_c (List.mem_of_getElem? (i := 8) rfl) (qsub_c (List.mem_of_getElem? (i := 9) rfl) (qsub_c (List.mem_of_getElem? (i := 10) rfl) (qsub_c (List.mem_of_getElem? (i := 11) rfl) (qsub_c (List.mem_of_getElem? (i := 12) rfl) (qsub_c (List.mem_of_getElem? (i := 13) rfl) (qsub_c (List.mem_of_getElem? (i := 14) rfl) (qsub_c (List.mem_of_getElem? (i := 15) rfl) (qsub_c (List.mem_of_getElem? (i := 16) rfl) (qsub_c (List.mem_of_getElem? (i := 17) rfl) (qsub_c (List.mem_of_getElem? (i := 18) rfl) (qsub_c (List.mem_of_getElem? (i := 19) rfl) (qsub_c (List.mem_of_getElem? (i := 20) rfl) (qsub_c (List.mem_of_getElem? (i := 21) rfl) (qsub_c (List.mem_of_getElem? (i := 22) rfl) (qsub_c (List.mem_of_getElem? (i := 23) rfl) (qsub_c (List.mem_of_getElem? (i := 24) rfl) (qsub_c (List.mem_of_getElem? (i := 25) rfl) (qsub_c (List.mem_of_getElem? (i := 26) rfl) (qsub_c (List.mem_of_getElem? (i := 27) rfl) (qsub_c (List.mem_of_getElem? (i := 28) rfl) (qsub_c (List.mem_of_getElem? (i := 29) rfl) (qsub_c (List.mem_of_getElem? (i := 30) rfl) (qsub_c (List.mem_of_getElem? (i := 31) rfl) (qsub_c (List.mem_of_getElem? (i := 32) rfl) (qsub_c (List.mem_of_getElem? (i := 33) rfl) qsub_nil)))))))))))))))))))))))))))))))))) (fr_X11_countAllSets h2 E0))
    obtain ⟨c19, h19, E0, E⟩ := qbn_el E
    have e_h19 := qfr_tr e_h11 (qfr_sub qsub_nil (fr_X1_fewestToLeaveOut x1 h11 E0))
    exact qsome_f (Q := fun z => qfr w_X11_careless h ((fun z : Int32 × qa_M => z.2) z)) E e_h19
theorem fr_X8_surveyor (x1 : Int32) (h : qa_M) {z : (Int32 × qa_M)} (E : m_X8_surveyor x1 h = some z) : qfr wz h ((fun z : Int32 × qa_M => z.2) z) := by
  unfold m_X8_surveyor at E
  have e_h : qfr wz h h := qfr_rf
  obtain ⟨c3, h3, E0, E⟩ := qbn_el E
  have e_h3 := qfr_tr e_h (qfr_sub qsub_nil (fr_X8_fact x1 (0 : Int32) h E0))
  exact qsome_f (Q := fun z => qfr wz h ((fun z : Int32 × qa_M => z.2) z)) E e_h3
theorem fr_X1_without_b36 (x2 : Int32) (x3 : Int32) (x4 : Int32) (h : qa_M) {z : ((Int32 × Int32 × Int32 × qa_M) ⊕ (Int32 × qa_M))} (E : f_X1_without_b36 x2 x3 x4 h = some z) : qfr wz h ((Sum.elim (fun z : Int32 × Int32 × Int32 × qa_M => z.2.2.2) (fun z : Int32 × qa_M => z.2)) z) := by
  unfold f_X1_without_b36 at E
  have e_h : qfr wz h h := qfr_rf
  obtain ⟨v36, -, E⟩ := qbd_el E
  exact qsome_f (Q := fun z => qfr wz h ((Sum.elim (fun z : Int32 × Int32 × Int32 × qa_M => z.2.2.2) (fun z : Int32 × qa_M => z.2)) z)) E e_h
theorem fr_X1_without_b5 (x2 : Int32) (x3 : Int32) (x4 : Int32) (h : qa_M) {z : ((Int32 × Int32 × Int32 × qa_M) ⊕ (Int32 × qa_M))} (E : f_X1_without_b5 x2 x3 x4 h = some z) : qfr wz h ((Sum.elim (fun z : Int32 × Int32 × Int32 × qa_M => z.2.2.2) (fun z : Int32 × qa_M => z.2)) z) := by
  unfold f_X1_without_b5 at E
  have e_h : qfr wz h h := qfr_rf
  rcases qif_el E with E | E
  · refine qup_f (Q := fun z => qfr wz h ((Sum.elim (fun z : Int32 × Int32 × Int32 × qa_M => z.2.2.2) (fun z : Int32 × qa_M => z.2)) z)) E (fun rz E => ?_)
    exact qsome_f (Q := fun z => qfr wz h ((fun z : Int32 × qa_M => z.2) z)) E e_h
  · obtain ⟨c18, h18, E0, E⟩ := qbn_el E
    have e_h18 := qfr_tr e_h (qfr_sub qsub_nil (fr_X8_surveyor x4 h E0))
    rcases qif_el E with E | E
    · exact qfr_tr e_h18 (qfr_sub qsub_nil (fr_X1_without_b36 x2 x3 x4 h18 E))
    · obtain ⟨v35, -, E⟩ := qbd_el E
      exact qfr_tr e_h18 (qfr_sub qsub_nil (fr_X1_without_b36 x2 v35 x4 h18 E))
theorem fr_X1_without_b5_loop (x2 : Int32) (x3 : Int32) (x4 : Int32) (h : qa_M) {z : (Int32 × qa_M)} (E : f_X1_without_b5_loop x2 x3 x4 h = some z) : qfr wz h ((fun z : Int32 × qa_M => z.2) z) :=
  qlp_ind (fun sz : Int32 × Int32 × Int32 × qa_M => qfr wz (sz.2.2.2) ((fun z : Int32 × qa_M => z.2) z)) (fun sz E => fr_X1_without_b5 sz.1 sz.2.1 sz.2.2.1 sz.2.2.2 E) (fun sz sz2 E ih => qfr_tr (fr_X1_without_b5 sz.1 sz.2.1 sz.2.2.1 sz.2.2.2 E) ih) (x2, x3, x4, h) E
theorem fr_X1_without (x1 : Int32) (x2 : Int32) (h : qa_M) {z : (Int32 × qa_M)} (E : m_X1_without x1 x2 h = some z) : qfr wz h ((fun z : Int32 × qa_M => z.2) z) := by
  unfold m_X1_without at E
  have e_h : qfr wz h h := qfr_rf
  obtain ⟨v1, -, E⟩ := qbd_el E
  obtain ⟨v3, -, E⟩ := qbd_el E
  exact qfr_tr e_h (qfr_sub qsub_nil (fr_X1_without_b5_loop x2 v1 v3 h E))
theorem fr_X1_fewestToDistrust_b40 (x2 : Int32) (x3 : Int32) (x4 : Int32) (h : qa_M) {z : ((Int32 × Int32 × Int32 × qa_M) ⊕ (Int32 × qa_M))} (E : f_X1_fewestToDistrust_b40 x2 x3 x4 h = some z) : qfr wz h ((Sum.elim (fun z : Int32 × Int32 × Int32 × qa_M => z.2.2.2) (fun z : Int32 × qa_M => z.2)) z) := by
  unfold f_X1_fewestToDistrust_b40 at E
  have e_h : qfr wz h h := qfr_rf
  obtain ⟨v40, -, E⟩ := qbd_el E
  exact qsome_f (Q := fun z => qfr wz h ((Sum.elim (fun z : Int32 × Int32 × Int32 × qa_M => z.2.2.2) (fun z : Int32 × qa_M => z.2)) z)) E e_h
theorem fr_X1_fewestToDistrust_b6 (x2 : Int32) (x3 : Int32) (x4 : Int32) (h : qa_M) {z : ((Int32 × Int32 × Int32 × qa_M) ⊕ (Int32 × qa_M))} (E : f_X1_fewestToDistrust_b6 x2 x3 x4 h = some z) : qfr wz h ((Sum.elim (fun z : Int32 × Int32 × Int32 × qa_M => z.2.2.2) (fun z : Int32 × qa_M => z.2)) z) := by
  unfold f_X1_fewestToDistrust_b6 at E
  have e_h : qfr wz h h := qfr_rf
  rcases qif_el E with E | E
  · refine qup_f (Q := fun z => qfr wz h ((Sum.elim (fun z : Int32 × Int32 × Int32 × qa_M => z.2.2.2) (fun z : Int32 × qa_M => z.2)) z)) E (fun rz E => ?_)
    exact qsome_f (Q := fun z => qfr wz h ((fun z : Int32 × qa_M => z.2) z)) E e_h
  · obtain ⟨c21, h21, E0, E⟩ := qbn_el E
    have e_h21 := qfr_tr e_h (qfr_sub qsub_nil (fr_X1_without x2 x4 h E0))
    obtain ⟨-, E⟩ := qck_el E
    rcases qif_el E with E | E
    · exact qfr_tr e_h21 (qfr_sub qsub_nil (fr_X1_fewestToDistrust_b40 x2 x3 x4 h21 E))
    · obtain ⟨c31, h31, E0, E⟩ := qbn_el E
      have e_h31 := qfr_tr e_h21 (qfr_sub qsub_nil (fr_X1_isFewer x4 x3 h21 E0))
      rcases qif_el E with E | E
      · exact qfr_tr e_h31 (qfr_sub qsub_nil (fr_X1_fewestToDistrust_b40 x2 x3 x4 h31 E))
      · obtain ⟨v39, -, E⟩ := qbd_el E
        exact qfr_tr e_h31 (qfr_sub qsub_nil (fr_X1_fewestToDistrust_b40 x2 v39 x4 h31 E))
theorem fr_X1_fewestToDistrust_b6_loop (x2 : Int32) (x3 : Int32) (x4 : Int32) (h : qa_M) {z : (Int32 × qa_M)} (E : f_X1_fewestToDistrust_b6_loop x2 x3 x4 h = some z) : qfr wz h ((fun z : Int32 × qa_M => z.2) z) :=
  qlp_ind (fun sz : Int32 × Int32 × Int32 × qa_M => qfr wz (sz.2.2.2) ((fun z : Int32 × qa_M => z.2) z)) (fun sz E => fr_X1_fewestToDistrust_b6 sz.1 sz.2.1 sz.2.2.1 sz.2.2.2 E) (fun sz sz2 E ih => qfr_tr (fr_X1_fewestToDistrust_b6 sz.1 sz.2.1 sz.2.2.1 sz.2.2.2 E) ih) (x2, x3, x4, h) E
theorem fr_X1_fewestToDistrust (x2 : Int32) (h : qa_M) {z : (Int32 × qa_M)} (E : m_X1_fewestToDistrust x2 h = some z) : qfr wz h ((fun z : Int32 × qa_M => z.2) z) := by
  unfold m_X1_fewestToDistrust at E
  have e_h : qfr wz h h := qfr_rf
  obtain ⟨v2, -, E⟩ := qbd_el E
  obtain ⟨v4, -, E⟩ := qbd_el E
  exact qfr_tr e_h (qfr_sub qsub_nil (fr_X1_fewestToDistrust_b6_loop x2 v2 v4 h E))
def w_X11_trust : List (Nat × Nat) := [(0, 15), (22, 5), (22, 8), (22, 9), (22, 13), (22, 16), (24, 0), (25, 0), (26, 0), (27, 0), (28, 0), (29, 0), (30, 0), (31, 0), (32, 0), (34, 1), (34, 5), (35, 0), (36, 0), (37, 0), (38, 0), (39, 0), (88, 0), (90, 0), (91, 0), (97, 0), (99, 0), (100, 0), (106, 0), (108, 0), (109, 0), (115, 0), (117, 0), (118, 0)]
theorem fr_X11_trust (x1 : Int32) (h : qa_M) {z : (Int32 × qa_M)} (E : m_X11_trust x1 h = some z) : qfr w_X11_trust h ((fun z : Int32 × qa_M => z.2) z) := by
  unfold m_X11_trust at E
  have e_h : qfr w_X11_trust h h := qfr_rf
  obtain ⟨c2, h2, E0, E⟩ := qbn_el E
  have e_h2 := qfr_tr e_h (qfr_sub qsub_nil (fr_X11_known x1 h E0))
  rcases qif_el E with E | E
  · exact qsome_f (Q := fun z => qfr w_X11_trust h ((fun z : Int32 × qa_M => z.2) z)) E e_h2
  · obtain ⟨h11, E0, E⟩ := qbv_el E
    have e_h11 := qfr_tr e_h2 (qfr_sub (qsub_c (List.mem_of_getElem? (i := 0) rfl) (qsub_c (List.mem_of_getElem? (i := 1) rfl) (qsub_c (List.mem_of_getElem? (i := 2) rfl) (qsub_c (List.mem_of_getElem? (i := 3) rfl) (qsub_c (List.mem_of_getElem? (i := 4) rfl) (qsub_c (List.mem_of_getElem? (i := 5) rfl) (qsub_c (List.mem_of_getElem? (i := 6) rfl) (qsub_c (List.mem_of_getElem? (i := 7) rfl) (qsub_c (List.mem_of_getElem? (i := 8) rfl) (qsub_c (List.mem_of_getElem? (i := 9) rfl) (qsub_c (List.mem_of_getElem? (i := 10) rfl) (qsub_c (List.mem_of_getElem? (i := 11) rfl) (qsub_c (List.mem_of_getElem? (i := 12) rfl) (qsub_c (List.mem_of_getElem? (i := 13) rfl) (qsub_c (List.mem_of_getElem? (i := 14) rfl) (qsub_c (List.mem_of_getElem? (i := 15) rfl) (qsub_c (List.mem_of_getElem? (i := 16) rfl) (qsub_c (List.mem_of_getElem? (i := 17) rfl) (qsub_c (List.mem_of_getElem? (i := 18) rfl) (qsub_c (List.mem_of_getElem? (i := 19) rfl) (qsub_c (List.mem_of_getElem? (i := 20) rfl) (qsub_c (List.mem_of_getElem? (i := 21) rfl) (qsub_c (List.mem_of_getElem? (i := 22) rfl) (qsub_c (List.mem_of_getElem? (i := 23) rfl) (qsub_c (List.mem_of_getElem? (i := 24) rfl) (qsub_c (List.mem_of_getElem? (i := 25) rfl) (qsub_c (List.mem_of_getElem? (i := 26) rfl) (qsub_c (List.mem_of_getElem? (i := 27) rfl) (qsub_c (List.mem_of_getElem? (i := 28) rfl) (qsub_c (List.mem_of_getElem? (i := 29) rfl) (qsub_c (List.mem_of_getElem? (i := 30) rfl) (qsub_c (List.mem_of_getElem? (i := 31) rfl) (qsub_c (List.mem_of_getElem? (i := 32) rfl) (qsub_c (List.mem_of_getElem? (i := 33) rfl) qsub_nil)))))))))))))))))))))))))))))))))) (fr_X11_countAllSets h2 E0))
    obtain ⟨c23, h23, E0, E⟩ := qbn_el E
    have e_h23 := qfr_tr e_h11 (qfr_sub qsub_nil (fr_X1_fewestToDistrust x1 h11 E0))
    exact qsome_f (Q := fun z => qfr w_X11_trust h ((fun z : Int32 × qa_M => z.2) z)) E e_h23
def wf_X0_viewFromHills_b10 : List (Nat × Nat) := [(41, 0), (42, 0)]
theorem fr_X0_viewFromHills_b10 (x2 : Int32) (h : qa_M) {z : ((Int32 × qa_M) ⊕ qa_M)} (E : f_X0_viewFromHills_b10 x2 h = some z) : qfr wf_X0_viewFromHills_b10 h ((Sum.elim (fun z : Int32 × qa_M => z.2) (fun z : qa_M => z)) z) := by
  unfold f_X0_viewFromHills_b10 at E
  have e_h : qfr wf_X0_viewFromHills_b10 h h := qfr_rf
  rcases qif_el E with E | E
  · refine qup_f (Q := fun z => qfr wf_X0_viewFromHills_b10 h ((Sum.elim (fun z : Int32 × qa_M => z.2) (fun z : qa_M => z)) z)) E (fun rz E => ?_)
    exact qsome_f (Q := fun z => qfr wf_X0_viewFromHills_b10 h ((fun z : qa_M => z) z)) E e_h
  · obtain ⟨-, E⟩ := qck_el E
    obtain ⟨-, E⟩ := qck_el E
    obtain ⟨h29, q_h29, E⟩ := qbd_el E
    have e_h29 := qfr_J0 q_h29 (List.mem_of_getElem? (i := 0) rfl) e_h
    obtain ⟨-, E⟩ := qck_el E
    obtain ⟨h36, q_h36, E⟩ := qbd_el E
    have e_h36 := qfr_I0 q_h36 (List.mem_of_getElem? (i := 1) rfl) e_h29
    obtain ⟨v37, -, E⟩ := qbd_el E
    exact qsome_f (Q := fun z => qfr wf_X0_viewFromHills_b10 h ((Sum.elim (fun z : Int32 × qa_M => z.2) (fun z : qa_M => z)) z)) E e_h36
theorem fr_X0_viewFromHills_b10_loop (x2 : Int32) (h : qa_M) {z : qa_M} (E : f_X0_viewFromHills_b10_loop x2 h = some z) : qfr wf_X0_viewFromHills_b10 h ((fun z : qa_M => z) z) :=
  qlp_ind (fun sz : Int32 × qa_M => qfr wf_X0_viewFromHills_b10 (sz.2) ((fun z : qa_M => z) z)) (fun sz E => fr_X0_viewFromHills_b10 sz.1 sz.2 E) (fun sz sz2 E ih => qfr_tr (fr_X0_viewFromHills_b10 sz.1 sz.2 E) ih) (x2, h) E
def w_X0_viewFromHills : List (Nat × Nat) := [(40, 1), (41, 0), (42, 0)]
theorem fr_X0_viewFromHills (h : qa_M) {z : qa_M} (E : m_X0_viewFromHills h = some z) : qfr w_X0_viewFromHills h ((fun z : qa_M => z) z) := by
  unfold m_X0_viewFromHills at E
  have e_h : qfr w_X0_viewFromHills h h := qfr_rf
  obtain ⟨h5, q_h5, E⟩ := qbd_el E
  have e_h5 := qfr_Ik q_h5 (List.mem_of_getElem? (i := 0) rfl) e_h
  obtain ⟨v9, -, E⟩ := qbd_el E
  exact qfr_tr e_h5 (qfr_sub (qsub_c (List.mem_of_getElem? (i := 1) rfl) (qsub_c (List.mem_of_getElem? (i := 2) rfl) qsub_nil)) (fr_X0_viewFromHills_b10_loop v9 h5 E))
theorem fr_X0_viewFromSquares_b61 (x2 : Int32) (x3 : Int32) (h : qa_M) {z : ((Int32 × Int32 × qa_M) ⊕ qa_M)} (E : f_X0_viewFromSquares_b61 x2 x3 h = some z) : qfr wz h ((Sum.elim (fun z : Int32 × Int32 × qa_M => z.2.2) (fun z : qa_M => z)) z) := by
  unfold f_X0_viewFromSquares_b61 at E
  have e_h : qfr wz h h := qfr_rf
  obtain ⟨v61, -, E⟩ := qbd_el E
  exact qsome_f (Q := fun z => qfr wz h ((Sum.elim (fun z : Int32 × Int32 × qa_M => z.2.2) (fun z : qa_M => z)) z)) E e_h
def wf_X0_viewFromSquares_b7 : List (Nat × Nat) := [(40, 1), (41, 0), (42, 0)]
theorem fr_X0_viewFromSquares_b7 (x2 : Int32) (x3 : Int32) (h : qa_M) {z : ((Int32 × Int32 × qa_M) ⊕ qa_M)} (E : f_X0_viewFromSquares_b7 x2 x3 h = some z) : qfr wf_X0_viewFromSquares_b7 h ((Sum.elim (fun z : Int32 × Int32 × qa_M => z.2.2) (fun z : qa_M => z)) z) := by
  unfold f_X0_viewFromSquares_b7 at E
  have e_h : qfr wf_X0_viewFromSquares_b7 h h := qfr_rf
  rcases qif_el E with E | E
  · refine qup_f (Q := fun z => qfr wf_X0_viewFromSquares_b7 h ((Sum.elim (fun z : Int32 × Int32 × qa_M => z.2.2) (fun z : qa_M => z)) z)) E (fun rz E => ?_)
    exact qsome_f (Q := fun z => qfr wf_X0_viewFromSquares_b7 h ((fun z : qa_M => z) z)) E e_h
  · obtain ⟨c14, h14, E0, E⟩ := qbn_el E
    have e_h14 := qfr_tr e_h (qfr_sub qsub_nil (fr_X3_open h E0))
    rcases qif_el E with E | E
    · exact qfr_tr e_h14 (qfr_sub qsub_nil (fr_X0_viewFromSquares_b61 x2 x3 h14 E))
    · obtain ⟨c37, h37, E0, E⟩ := qbn_el E
      have e_h37 := qfr_tr e_h14 (qfr_sub qsub_nil (fr_X3_view 4 x3 x2 h14 E0))
      obtain ⟨-, E⟩ := qck_el E
      obtain ⟨h40, q_h40, E⟩ := qbd_el E
      have e_h40 := qfr_J0 q_h40 (List.mem_of_getElem? (i := 1) rfl) e_h37
      obtain ⟨-, E⟩ := qck_el E
      obtain ⟨h50, q_h50, E⟩ := qbd_el E
      have e_h50 := qfr_I0 q_h50 (List.mem_of_getElem? (i := 2) rfl) e_h40
      obtain ⟨h58, q_h58, E⟩ := qbd_el E
      have e_h58 := qfr_Ik q_h58 (List.mem_of_getElem? (i := 0) rfl) e_h50
      exact qfr_tr e_h58 (qfr_sub qsub_nil (fr_X0_viewFromSquares_b61 x2 x3 h58 E))
theorem fr_X0_viewFromSquares_b7_loop (x2 : Int32) (x3 : Int32) (h : qa_M) {z : qa_M} (E : f_X0_viewFromSquares_b7_loop x2 x3 h = some z) : qfr wf_X0_viewFromSquares_b7 h ((fun z : qa_M => z) z) :=
  qlp_ind (fun sz : Int32 × Int32 × qa_M => qfr wf_X0_viewFromSquares_b7 (sz.2.2) ((fun z : qa_M => z) z)) (fun sz E => fr_X0_viewFromSquares_b7 sz.1 sz.2.1 sz.2.2 E) (fun sz sz2 E ih => qfr_tr (fr_X0_viewFromSquares_b7 sz.1 sz.2.1 sz.2.2 E) ih) (x2, x3, h) E
def w_X0_viewFromSquares : List (Nat × Nat) := [(40, 1), (41, 0), (42, 0)]
theorem fr_X0_viewFromSquares (x2 : Int32) (h : qa_M) {z : qa_M} (E : m_X0_viewFromSquares x2 h = some z) : qfr w_X0_viewFromSquares h ((fun z : qa_M => z) z) := by
  unfold m_X0_viewFromSquares at E
  have e_h : qfr w_X0_viewFromSquares h h := qfr_rf
  obtain ⟨h2, q_h2, E⟩ := qbd_el E
  have e_h2 := qfr_Ik q_h2 (List.mem_of_getElem? (i := 0) rfl) e_h
  obtain ⟨v6, -, E⟩ := qbd_el E
  exact qfr_tr e_h2 (qfr_sub (qsub_c (List.mem_of_getElem? (i := 0) rfl) (qsub_c (List.mem_of_getElem? (i := 1) rfl) (qsub_c (List.mem_of_getElem? (i := 2) rfl) qsub_nil))) (fr_X0_viewFromSquares_b7_loop x2 v6 h2 E))
theorem fr_X7_sortsOn_b5 (x1 : Int64) (x3 : Int32) (x4 : Int32) (h : qa_M) {z : ((Int64 × Int32 × Int32 × qa_M) ⊕ (Int32 × qa_M))} (E : f_X7_sortsOn_b5 x1 x3 x4 h = some z) : qfr wz h ((Sum.elim (fun z : Int64 × Int32 × Int32 × qa_M => z.2.2.2) (fun z : Int32 × qa_M => z.2)) z) := by
  unfold f_X7_sortsOn_b5 at E
  have e_h : qfr wz h h := qfr_rf
  rcases qif_el E with E | E
  · refine qup_f (Q := fun z => qfr wz h ((Sum.elim (fun z : Int64 × Int32 × Int32 × qa_M => z.2.2.2) (fun z : Int32 × qa_M => z.2)) z)) E (fun rz E => ?_)
    exact qsome_f (Q := fun z => qfr wz h ((fun z : Int32 × qa_M => z.2) z)) E e_h
  · obtain ⟨-, E⟩ := qck_el E
    obtain ⟨-, E⟩ := qck_el E
    obtain ⟨v38, -, E⟩ := qbd_el E
    obtain ⟨v39, -, E⟩ := qbd_el E
    exact qsome_f (Q := fun z => qfr wz h ((Sum.elim (fun z : Int64 × Int32 × Int32 × qa_M => z.2.2.2) (fun z : Int32 × qa_M => z.2)) z)) E e_h
theorem fr_X7_sortsOn_b5_loop (x1 : Int64) (x3 : Int32) (x4 : Int32) (h : qa_M) {z : (Int32 × qa_M)} (E : f_X7_sortsOn_b5_loop x1 x3 x4 h = some z) : qfr wz h ((fun z : Int32 × qa_M => z.2) z) :=
  qlp_ind (fun sz : Int64 × Int32 × Int32 × qa_M => qfr wz (sz.2.2.2) ((fun z : Int32 × qa_M => z.2) z)) (fun sz E => fr_X7_sortsOn_b5 sz.1 sz.2.1 sz.2.2.1 sz.2.2.2 E) (fun sz sz2 E ih => qfr_tr (fr_X7_sortsOn_b5 sz.1 sz.2.1 sz.2.2.1 sz.2.2.2 E) ih) (x1, x3, x4, h) E
theorem fr_X7_sortsOn (x1 : Int64) (h : qa_M) {z : (Int32 × qa_M)} (E : m_X7_sortsOn x1 h = some z) : qfr wz h ((fun z : Int32 × qa_M => z.2) z) := by
  unfold m_X7_sortsOn at E
  have e_h : qfr wz h h := qfr_rf
  obtain ⟨v1, -, E⟩ := qbd_el E
  obtain ⟨v3, -, E⟩ := qbd_el E
  exact qfr_tr e_h (qfr_sub qsub_nil (fr_X7_sortsOn_b5_loop x1 v1 v3 h E))
def wf_X0_countViews_b19 : List (Nat × Nat) := [(43, 0)]
theorem fr_X0_countViews_b19 (x2 : Int32) (x3 : Int32) (x4 : Int32) (x5 : Int32) (h : qa_M) {z : ((Int32 × Int32 × Int32 × Int32 × qa_M) ⊕ qa_M)} (E : f_X0_countViews_b19 x2 x3 x4 x5 h = some z) : qfr wf_X0_countViews_b19 h ((Sum.elim (fun z : Int32 × Int32 × Int32 × Int32 × qa_M => z.2.2.2.2) (fun z : qa_M => z)) z) := by
  unfold f_X0_countViews_b19 at E
  have e_h : qfr wf_X0_countViews_b19 h h := qfr_rf
  rcases qif_el E with E | E
  · refine qup_f (Q := fun z => qfr wf_X0_countViews_b19 h ((Sum.elim (fun z : Int32 × Int32 × Int32 × Int32 × qa_M => z.2.2.2.2) (fun z : qa_M => z)) z)) E (fun rz E => ?_)
    exact qsome_f (Q := fun z => qfr wf_X0_countViews_b19 h ((fun z : qa_M => z) z)) E e_h
  · obtain ⟨-, E⟩ := qck_el E
    obtain ⟨c40, h40, E0, E⟩ := qbn_el E
    have e_h40 := qfr_tr e_h (qfr_sub qsub_nil (fr_J13_bitCount_95d88 ((h.2.1 22 15) &&& (h.2.1 41 x5.toNatClampNeg)) h E0))
    obtain ⟨v43, -, E⟩ := qbd_el E
    obtain ⟨-, E⟩ := qck_el E
    obtain ⟨c54, h54, E0, E⟩ := qbn_el E
    have e_h54 := qfr_tr e_h40 (qfr_sub qsub_nil (fr_X7_sortsOn (h40.2.1 41 x5.toNatClampNeg) h40 E0))
    obtain ⟨v60, -, E⟩ := qbd_el E
    obtain ⟨-, E⟩ := qck_el E
    obtain ⟨-, E⟩ := qck_el E
    obtain ⟨h81, q_h81, E⟩ := qbd_el E
    have e_h81 := qfr_I0 q_h81 (List.mem_of_getElem? (i := 0) rfl) e_h54
    obtain ⟨-, E⟩ := qck_el E
    obtain ⟨-, E⟩ := qck_el E
    obtain ⟨h104, q_h104, E⟩ := qbd_el E
    have e_h104 := qfr_I0 q_h104 (List.mem_of_getElem? (i := 0) rfl) e_h81
    obtain ⟨v105, -, E⟩ := qbd_el E
    exact qsome_f (Q := fun z => qfr wf_X0_countViews_b19 h ((Sum.elim (fun z : Int32 × Int32 × Int32 × Int32 × qa_M => z.2.2.2.2) (fun z : qa_M => z)) z)) E e_h104
theorem fr_X0_countViews_b19_loop (x2 : Int32) (x3 : Int32) (x4 : Int32) (x5 : Int32) (h : qa_M) {z : qa_M} (E : f_X0_countViews_b19_loop x2 x3 x4 x5 h = some z) : qfr wf_X0_countViews_b19 h ((fun z : qa_M => z) z) :=
  qlp_ind (fun sz : Int32 × Int32 × Int32 × Int32 × qa_M => qfr wf_X0_countViews_b19 (sz.2.2.2.2) ((fun z : qa_M => z) z)) (fun sz E => fr_X0_countViews_b19 sz.1 sz.2.1 sz.2.2.1 sz.2.2.2.1 sz.2.2.2.2 E) (fun sz sz2 E ih => qfr_tr (fr_X0_countViews_b19 sz.1 sz.2.1 sz.2.2.1 sz.2.2.2.1 sz.2.2.2.2 E) ih) (x2, x3, x4, x5, h) E
def w_X0_countViews : List (Nat × Nat) := [(43, 0)]
theorem fr_X0_countViews (x2 : Int32) (h : qa_M) {z : qa_M} (E : m_X0_countViews x2 h = some z) : qfr w_X0_countViews h ((fun z : qa_M => z) z) := by
  unfold m_X0_countViews at E
  have e_h : qfr w_X0_countViews h h := qfr_rf
  obtain ⟨c4, h4, E0, E⟩ := qbn_el E
  have e_h4 := qfr_tr e_h (qfr_sub qsub_nil (fr_J13_bitCount_95d88 (h.2.1 22 15) h E0))
  obtain ⟨v7, -, E⟩ := qbd_el E
  obtain ⟨c10, h10, E0, E⟩ := qbn_el E
  have e_h10 := qfr_tr e_h4 (qfr_sub qsub_nil (fr_X7_lastSort h4 E0))
  obtain ⟨v14, -, E⟩ := qbd_el E
  obtain ⟨v17, -, E⟩ := qbd_el E
  exact qfr_tr e_h10 (qfr_sub (qsub_c (List.mem_of_getElem? (i := 0) rfl) qsub_nil) (fr_X0_countViews_b19_loop x2 v7 v14 v17 h10 E))
def wf_X0_look_b90 : List (Nat × Nat) := [(22, 13), (22, 16), (31, 0), (32, 0), (43, 0)]
theorem fr_X0_look_b90 (x6 : Int32) (x7 : Int32) (h : qa_M) {z : ((Int32 × Int32 × qa_M) ⊕ qa_M)} (E : f_X0_look_b90 x6 x7 h = some z) : qfr wf_X0_look_b90 h ((Sum.elim (fun z : Int32 × Int32 × qa_M => z.2.2) (fun z : qa_M => z)) z) := by
  unfold f_X0_look_b90 at E
  have e_h : qfr wf_X0_look_b90 h h := qfr_rf
  rcases qif_el E with E | E
  · refine qup_f (Q := fun z => qfr wf_X0_look_b90 h ((Sum.elim (fun z : Int32 × Int32 × qa_M => z.2.2) (fun z : qa_M => z)) z)) E (fun rz E => ?_)
    exact qsome_f (Q := fun z => qfr wf_X0_look_b90 h ((fun z : qa_M => z) z)) E e_h
  · obtain ⟨c98, h98, E0, E⟩ := qbn_el E
    have e_h98 := qfr_tr e_h (qfr_sub (qsub_c (List.mem_of_getElem? (i := 0) rfl) (qsub_c (List.mem_of_getElem? (i := 1) rfl) (qsub_c (List.mem_of_getElem? (i := 2) rfl) (qsub_c (List.mem_of_getElem? (i := 3) rfl) qsub_nil)))) (fr_X7_step h E0))
    rcases qif_el E with E | E
    · refine qup_f (Q := fun z => qfr wf_X0_look_b90 h ((Sum.elim (fun z : Int32 × Int32 × qa_M => z.2.2) (fun z : qa_M => z)) z)) E (fun rz E => ?_)
      exact qsome_f (Q := fun z => qfr wf_X0_look_b90 h ((fun z : qa_M => z) z)) E e_h98
    · obtain ⟨h108, E0, E⟩ := qbv_el E
      have e_h108 := qfr_tr e_h98 (qfr_sub (qsub_c (List.mem_of_getElem? (i := 4) rfl) qsub_nil) (fr_X0_countViews x6 h98 E0))
      obtain ⟨v111, -, E⟩ := qbd_el E
      exact qsome_f (Q := fun z => qfr wf_X0_look_b90 h ((Sum.elim (fun z : Int32 × Int32 × qa_M => z.2.2) (fun z : qa_M => z)) z)) E e_h108
theorem fr_X0_look_b90_loop (x6 : Int32) (x7 : Int32) (h : qa_M) {z : qa_M} (E : f_X0_look_b90_loop x6 x7 h = some z) : qfr wf_X0_look_b90 h ((fun z : qa_M => z) z) :=
  qlp_ind (fun sz : Int32 × Int32 × qa_M => qfr wf_X0_look_b90 (sz.2.2) ((fun z : qa_M => z) z)) (fun sz E => fr_X0_look_b90 sz.1 sz.2.1 sz.2.2 E) (fun sz sz2 E ih => qfr_tr (fr_X0_look_b90 sz.1 sz.2.1 sz.2.2 E) ih) (x6, x7, h) E
def wf_X0_look_b64 : List (Nat × Nat) := [(22, 8), (22, 9), (22, 13), (22, 16), (27, 0), (28, 0), (29, 0), (30, 0), (31, 0), (32, 0), (43, 0)]
theorem fr_X0_look_b64 (x3 : Int32) (h : qa_M) {z : qa_M} (E : f_X0_look_b64 x3 h = some z) : qfr wf_X0_look_b64 h ((fun z : qa_M => z) z) := by
  unfold f_X0_look_b64 at E
  have e_h : qfr wf_X0_look_b64 h h := qfr_rf
  obtain ⟨h69, E0, E⟩ := qbv_el E
  have e_h69 := qfr_tr e_h (qfr_sub (qsub_c (List.mem_of_getElem? (i := 10) rfl) qsub_nil) (fr_J7_fill_53178 43 (0 : Int32) h E0))
  obtain ⟨h74, E0, E⟩ := qbv_el E
  have e_h74 := qfr_tr e_h69 (qfr_sub (qsub_c (List.mem_of_getElem? (i := 0) rfl) (qsub_c (List.mem_of_getElem? (i := 1) rfl) (qsub_c (List.mem_of_getElem? (i := 2) rfl) (qsub_c (List.mem_of_getElem? (i := 4) rfl) (qsub_c (List.mem_of_getElem? (i := 5) rfl) (qsub_c (List.mem_of_getElem? (i := 6) rfl) (qsub_c (List.mem_of_getElem? (i := 7) rfl) (qsub_c (List.mem_of_getElem? (i := 9) rfl) qsub_nil)))))))) (fr_X7_start x3 h69 E0))
  obtain ⟨v85, -, E⟩ := qbd_el E
  obtain ⟨v88, -, E⟩ := qbd_el E
  exact qfr_tr e_h74 (qfr_sub (qsub_c (List.mem_of_getElem? (i := 2) rfl) (qsub_c (List.mem_of_getElem? (i := 3) rfl) (qsub_c (List.mem_of_getElem? (i := 8) rfl) (qsub_c (List.mem_of_getElem? (i := 9) rfl) (qsub_c (List.mem_of_getElem? (i := 10) rfl) qsub_nil))))) (fr_X0_look_b90_loop v85 v88 h74 E))
def wf_X0_look_b27 : List (Nat × Nat) := [(22, 8), (22, 9), (22, 13), (22, 16), (27, 0), (28, 0), (29, 0), (30, 0), (31, 0), (32, 0), (40, 1), (40, 5), (40, 6), (40, 7), (41, 0), (42, 0), (43, 0)]
theorem fr_X0_look_b27 (x3 : Int32) (x4 : Int32) (x5 : Int32) (h : qa_M) {z : qa_M} (E : f_X0_look_b27 x3 x4 x5 h = some z) : qfr wf_X0_look_b27 h ((fun z : qa_M => z) z) := by
  unfold f_X0_look_b27 at E
  have e_h : qfr wf_X0_look_b27 h h := qfr_rf
  obtain ⟨h30, q_h30, E⟩ := qbd_el E
  have e_h30 := qfr_Ik q_h30 (List.mem_of_getElem? (i := 11) rfl) e_h
  obtain ⟨h35, q_h35, E⟩ := qbd_el E
  have e_h35 := qfr_Ik q_h35 (List.mem_of_getElem? (i := 12) rfl) e_h30
  obtain ⟨h41, q_h41, E⟩ := qbd_el E
  have e_h41 := qfr_Ik q_h41 (List.mem_of_getElem? (i := 13) rfl) e_h35
  rcases qif_el E with E | E
  · obtain ⟨h51, E0, E⟩ := qbv_el E
    have e_h51 := qfr_tr e_h41 (qfr_sub (qsub_c (List.mem_of_getElem? (i := 10) rfl) (qsub_c (List.mem_of_getElem? (i := 14) rfl) (qsub_c (List.mem_of_getElem? (i := 15) rfl) qsub_nil))) (fr_X0_viewFromHills h41 E0))
    exact qfr_tr e_h51 (qfr_sub (qsub_c (List.mem_of_getElem? (i := 0) rfl) (qsub_c (List.mem_of_getElem? (i := 1) rfl) (qsub_c (List.mem_of_getElem? (i := 2) rfl) (qsub_c (List.mem_of_getElem? (i := 3) rfl) (qsub_c (List.mem_of_getElem? (i := 4) rfl) (qsub_c (List.mem_of_getElem? (i := 5) rfl) (qsub_c (List.mem_of_getElem? (i := 6) rfl) (qsub_c (List.mem_of_getElem? (i := 7) rfl) (qsub_c (List.mem_of_getElem? (i := 8) rfl) (qsub_c (List.mem_of_getElem? (i := 9) rfl) (qsub_c (List.mem_of_getElem? (i := 16) rfl) qsub_nil))))))))))) (fr_X0_look_b64 x3 h51 E))
  · obtain ⟨h61, E0, E⟩ := qbv_el E
    have e_h61 := qfr_tr e_h41 (qfr_sub (qsub_c (List.mem_of_getElem? (i := 10) rfl) (qsub_c (List.mem_of_getElem? (i := 14) rfl) (qsub_c (List.mem_of_getElem? (i := 15) rfl) qsub_nil))) (fr_X0_viewFromSquares x4 h41 E0))
    exact qfr_tr e_h61 (qfr_sub (qsub_c (List.mem_of_getElem? (i := 0) rfl) (qsub_c (List.mem_of_getElem? (i := 1) rfl) (qsub_c (List.mem_of_getElem? (i := 2) rfl) (qsub_c (List.mem_of_getElem? (i := 3) rfl) (qsub_c (List.mem_of_getElem? (i := 4) rfl) (qsub_c (List.mem_of_getElem? (i := 5) rfl) (qsub_c (List.mem_of_getElem? (i := 6) rfl) (qsub_c (List.mem_of_getElem? (i := 7) rfl) (qsub_c (List.mem_of_getElem? (i := 8) rfl) (qsub_c (List.mem_of_getElem? (i := 9) rfl) (qsub_c (List.mem_of_getElem? (i := 16) rfl) qsub_nil))))))))))) (fr_X0_look_b64 x3 h61 E))
def w_X0_look : List (Nat × Nat) := [(22, 8), (22, 9), (22, 13), (22, 16), (27, 0), (28, 0), (29, 0), (30, 0), (31, 0), (32, 0), (40, 1), (40, 5), (40, 6), (40, 7), (41, 0), (42, 0), (43, 0)]
theorem fr_X0_look (x3 : Int32) (x4 : Int32) (x5 : Int32) (h : qa_M) {z : qa_M} (E : m_X0_look x3 x4 x5 h = some z) : qfr w_X0_look h ((fun z : qa_M => z) z) := by
  unfold m_X0_look at E
  have e_h : qfr w_X0_look h h := qfr_rf
  rcases qif_el E with E | E
  · rcases qif_el E with E | E
    · rcases qif_el E with E | E
      · exact qsome_f (Q := fun z => qfr w_X0_look h ((fun z : qa_M => z) z)) E e_h
      · exact qfr_tr e_h (qfr_sub (qsub_c (List.mem_of_getElem? (i := 0) rfl) (qsub_c (List.mem_of_getElem? (i := 1) rfl) (qsub_c (List.mem_of_getElem? (i := 2) rfl) (qsub_c (List.mem_of_getElem? (i := 3) rfl) (qsub_c (List.mem_of_getElem? (i := 4) rfl) (qsub_c (List.mem_of_getElem? (i := 5) rfl) (qsub_c (List.mem_of_getElem? (i := 6) rfl) (qsub_c (List.mem_of_getElem? (i := 7) rfl) (qsub_c (List.mem_of_getElem? (i := 8) rfl) (qsub_c (List.mem_of_getElem? (i := 9) rfl) (qsub_c (List.mem_of_getElem? (i := 10) rfl) (qsub_c (List.mem_of_getElem? (i := 11) rfl) (qsub_c (List.mem_of_getElem? (i := 12) rfl) (qsub_c (List.mem_of_getElem? (i := 13) rfl) (qsub_c (List.mem_of_getElem? (i := 14) rfl) (qsub_c (List.mem_of_getElem? (i := 15) rfl) (qsub_c (List.mem_of_getElem? (i := 16) rfl) qsub_nil))))))))))))))))) (fr_X0_look_b27 x3 x4 x5 h E))
    · exact qfr_tr e_h (qfr_sub (qsub_c (List.mem_of_getElem? (i := 0) rfl) (qsub_c (List.mem_of_getElem? (i := 1) rfl) (qsub_c (List.mem_of_getElem? (i := 2) rfl) (qsub_c (List.mem_of_getElem? (i := 3) rfl) (qsub_c (List.mem_of_getElem? (i := 4) rfl) (qsub_c (List.mem_of_getElem? (i := 5) rfl) (qsub_c (List.mem_of_getElem? (i := 6) rfl) (qsub_c (List.mem_of_getElem? (i := 7) rfl) (qsub_c (List.mem_of_getElem? (i := 8) rfl) (qsub_c (List.mem_of_getElem? (i := 9) rfl) (qsub_c (List.mem_of_getElem? (i := 10) rfl) (qsub_c (List.mem_of_getElem? (i := 11) rfl) (qsub_c (List.mem_of_getElem? (i := 12) rfl) (qsub_c (List.mem_of_getElem? (i := 13) rfl) (qsub_c (List.mem_of_getElem? (i := 14) rfl) (qsub_c (List.mem_of_getElem? (i := 15) rfl) (qsub_c (List.mem_of_getElem? (i := 16) rfl) qsub_nil))))))))))))))))) (fr_X0_look_b27 x3 x4 x5 h E))
  · exact qfr_tr e_h (qfr_sub (qsub_c (List.mem_of_getElem? (i := 0) rfl) (qsub_c (List.mem_of_getElem? (i := 1) rfl) (qsub_c (List.mem_of_getElem? (i := 2) rfl) (qsub_c (List.mem_of_getElem? (i := 3) rfl) (qsub_c (List.mem_of_getElem? (i := 4) rfl) (qsub_c (List.mem_of_getElem? (i := 5) rfl) (qsub_c (List.mem_of_getElem? (i := 6) rfl) (qsub_c (List.mem_of_getElem? (i := 7) rfl) (qsub_c (List.mem_of_getElem? (i := 8) rfl) (qsub_c (List.mem_of_getElem? (i := 9) rfl) (qsub_c (List.mem_of_getElem? (i := 10) rfl) (qsub_c (List.mem_of_getElem? (i := 11) rfl) (qsub_c (List.mem_of_getElem? (i := 12) rfl) (qsub_c (List.mem_of_getElem? (i := 13) rfl) (qsub_c (List.mem_of_getElem? (i := 14) rfl) (qsub_c (List.mem_of_getElem? (i := 15) rfl) (qsub_c (List.mem_of_getElem? (i := 16) rfl) qsub_nil))))))))))))))))) (fr_X0_look_b27 x3 x4 x5 h E))
def w_X11_lookFrom : List (Nat × Nat) := [(0, 15), (22, 5), (22, 8), (22, 9), (22, 13), (22, 16), (24, 0), (25, 0), (26, 0), (27, 0), (28, 0), (29, 0), (30, 0), (31, 0), (32, 0), (40, 1), (40, 5), (40, 6), (40, 7), (41, 0), (42, 0), (43, 0), (88, 0), (90, 0), (91, 0), (97, 0), (99, 0), (100, 0), (106, 0), (108, 0), (109, 0), (115, 0), (117, 0), (118, 0)]
theorem fr_X11_lookFrom (x1 : Int32) (x2 : Int32) (h : qa_M) {z : qa_M} (E : m_X11_lookFrom x1 x2 h = some z) : qfr w_X11_lookFrom h ((fun z : qa_M => z) z) := by
  unfold m_X11_lookFrom at E
  have e_h : qfr w_X11_lookFrom h h := qfr_rf
  obtain ⟨h1, E0, E⟩ := qbv_el E
  have e_h1 := qfr_tr e_h (qfr_sub (qsub_c (List.mem_of_getElem? (i := 0) rfl) (qsub_c (List.mem_of_getElem? (i := 1) rfl) (qsub_c (List.mem_of_getElem? (i := 6) rfl) (qsub_c (List.mem_of_getElem? (i := 7) rfl) (qsub_c (List.mem_of_getElem? (i := 8) rfl) (qsub_c (List.mem_of_getElem? (i := 22) rfl) (qsub_c (List.mem_of_getElem? (i := 23) rfl) (qsub_c (List.mem_of_getElem? (i := 24) rfl) (qsub_c (List.mem_of_getElem? (i := 25) rfl) (qsub_c (List.mem_of_getElem? (i := 26) rfl) (qsub_c (List.mem_of_getElem? (i := 27) rfl) (qsub_c (List.mem_of_getElem? (i := 28) rfl) (qsub_c (List.mem_of_getElem? (i := 29) rfl) (qsub_c (List.mem_of_getElem? (i := 30) rfl) (qsub_c (List.mem_of_getElem? (i := 31) rfl) (qsub_c (List.mem_of_getElem? (i := 32) rfl) (qsub_c (List.mem_of_getElem? (i := 33) rfl) qsub_nil))))))))))))))))) (fr_X11_prepare h E0))
  obtain ⟨h25, E0, E⟩ := qbv_el E
  have e_h25 := qfr_tr e_h1 (qfr_sub (qsub_c (List.mem_of_getElem? (i := 2) rfl) (qsub_c (List.mem_of_getElem? (i := 3) rfl) (qsub_c (List.mem_of_getElem? (i := 4) rfl) (qsub_c (List.mem_of_getElem? (i := 5) rfl) (qsub_c (List.mem_of_getElem? (i := 9) rfl) (qsub_c (List.mem_of_getElem? (i := 10) rfl) (qsub_c (List.mem_of_getElem? (i := 11) rfl) (qsub_c (List.mem_of_getElem? (i := 12) rfl) (qsub_c (List.mem_of_getElem? (i := 13) rfl) (qsub_c (List.mem_of_getElem? (i := 14) rfl) (qsub_c (List.mem_of_getElem? (i := 15) rfl) (qsub_c (List.mem_of_getElem? (i := 16) rfl) (qsub_c (List.mem_of_getElem? (i := 17) rfl) (qsub_c (List.mem_of_getElem? (i := 18) rfl) (qsub_c (List.mem_of_getElem? (i := 19) rfl) (qsub_c (List.mem_of_getElem? (i := 20) rfl) (qsub_c (List.mem_of_getElem? (i := 21) rfl) qsub_nil))))))))))))))))) (fr_X0_look x1 x2 (h1.1 0 13) h1 E0))
  exact qsome_f (Q := fun z => qfr w_X11_lookFrom h ((fun z : qa_M => z) z)) E e_h25
theorem fr_X0_greatest_b4 (x1 : Int32) (x2 : Int32) (x3 : Int32) (h : qa_M) {z : ((Int32 × Int32 × Int32 × qa_M) ⊕ (Int32 × qa_M))} (E : f_X0_greatest_b4 x1 x2 x3 h = some z) : qfr wz h ((Sum.elim (fun z : Int32 × Int32 × Int32 × qa_M => z.2.2.2) (fun z : Int32 × qa_M => z.2)) z) := by
  unfold f_X0_greatest_b4 at E
  have e_h : qfr wz h h := qfr_rf
  rcases qif_el E with E | E
  · refine qup_f (Q := fun z => qfr wz h ((Sum.elim (fun z : Int32 × Int32 × Int32 × qa_M => z.2.2.2) (fun z : Int32 × qa_M => z.2)) z)) E (fun rz E => ?_)
    exact qsome_f (Q := fun z => qfr wz h ((fun z : Int32 × qa_M => z.2) z)) E e_h
  · obtain ⟨-, E⟩ := qck_el E
    obtain ⟨v25, -, E⟩ := qbd_el E
    obtain ⟨v26, -, E⟩ := qbd_el E
    exact qsome_f (Q := fun z => qfr wz h ((Sum.elim (fun z : Int32 × Int32 × Int32 × qa_M => z.2.2.2) (fun z : Int32 × qa_M => z.2)) z)) E e_h
theorem fr_X0_greatest_b4_loop (x1 : Int32) (x2 : Int32) (x3 : Int32) (h : qa_M) {z : (Int32 × qa_M)} (E : f_X0_greatest_b4_loop x1 x2 x3 h = some z) : qfr wz h ((fun z : Int32 × qa_M => z.2) z) :=
  qlp_ind (fun sz : Int32 × Int32 × Int32 × qa_M => qfr wz (sz.2.2.2) ((fun z : Int32 × qa_M => z.2) z)) (fun sz E => fr_X0_greatest_b4 sz.1 sz.2.1 sz.2.2.1 sz.2.2.2 E) (fun sz sz2 E ih => qfr_tr (fr_X0_greatest_b4 sz.1 sz.2.1 sz.2.2.1 sz.2.2.2 E) ih) (x1, x2, x3, h) E
theorem fr_X0_greatest (x1 : Int32) (h : qa_M) {z : (Int32 × qa_M)} (E : m_X0_greatest x1 h = some z) : qfr wz h ((fun z : Int32 × qa_M => z.2) z) := by
  unfold m_X0_greatest at E
  have e_h : qfr wz h h := qfr_rf
  obtain ⟨v1, -, E⟩ := qbd_el E
  obtain ⟨v3, -, E⟩ := qbd_el E
  exact qfr_tr e_h (qfr_sub qsub_nil (fr_X0_greatest_b4_loop x1 v1 v3 h E))
def w_X11_worst : List (Nat × Nat) := [(0, 15), (22, 5), (22, 8), (22, 9), (22, 13), (22, 16), (24, 0), (25, 0), (26, 0), (27, 0), (28, 0), (29, 0), (30, 0), (31, 0), (32, 0), (40, 1), (40, 5), (40, 6), (40, 7), (41, 0), (42, 0), (43, 0), (88, 0), (90, 0), (91, 0), (97, 0), (99, 0), (100, 0), (106, 0), (108, 0), (109, 0), (115, 0), (117, 0), (118, 0)]
theorem fr_X11_worst (x1 : Int32) (x2 : Int32) (h : qa_M) {z : (Int32 × qa_M)} (E : m_X11_worst x1 x2 h = some z) : qfr w_X11_worst h ((fun z : Int32 × qa_M => z.2) z) := by
  unfold m_X11_worst at E
  have e_h : qfr w_X11_worst h h := qfr_rf
  obtain ⟨c2, h2, E0, E⟩ := qbn_el E
  have e_h2 := qfr_tr e_h (qfr_sub qsub_nil (fr_X11_known x1 h E0))
  rcases qif_el E with E | E
  · exact qsome_f (Q := fun z => qfr w_X11_worst h ((fun z : Int32 × qa_M => z.2) z)) E e_h2
  · obtain ⟨c19, h19, E0, E⟩ := qbn_el E
    have e_h19 := qfr_tr e_h2 (qfr_sub qsub_nil (fr_X11_within x2 (h2.1 4 2) h2 E0))
    rcases qif_el E with E | E
    · exact qsome_f (Q := fun z => qfr w_X11_worst h ((fun z : Int32 × qa_M => z.2) z)) E e_h19
    · obtain ⟨h30, E0, E⟩ := qbv_el E
      have e_h30 := qfr_tr e_h19 (qfr_sub (qsub_c (List.mem_of_getElem? (i := 0) rfl) (qsub_c (List.mem_of_getElem? (i := 1) rfl) (qsub_c (List.mem_of_getElem? (i := 2) rfl) (qsub_c (List.mem_of_getElem? (i := 3) rfl) (qsub_c (List.mem_of_getElem? (i := 4) rfl) (qsub_c (List.mem_of_getElem? (i := 5) rfl) (qsub_c (List.mem_of_getElem? (i := 6) rfl) (qsub_c (List.mem_of_getElem? (i := 7) rfl) (qsub_c (List.mem_of_getElem? (i := 8) rfl) (qsub_c (List.mem_of_getElem? (i := 9) rfl) (qsub_c (List.mem_of_getElem? (i := 10) rfl) (qsub_c (List.mem_of_getElem? (i := 11) rfl) (qsub_c (List.mem_of_getElem? (i := 12) rfl) (qsub_c (List.mem_of_getElem? (i := 13) rfl) (qsub_c (List.mem_of_getElem? (i := 14) rfl) (qsub_c (List.mem_of_getElem? (i := 15) rfl) (qsub_c (List.mem_of_getElem? (i := 16) rfl) (qsub_c (List.mem_of_getElem? (i := 17) rfl) (qsub_c (List.mem_of_getElem? (i := 18) rfl) (qsub_c (List.mem_of_getElem? (i := 19) rfl) (qsub_c (List.mem_of_getElem? (i := 20) rfl) (qsub_c (List.mem_of_getElem? (i := 21) rfl) (qsub_c (List.mem_of_getElem? (i := 22) rfl) (qsub_c (List.mem_of_getElem? (i := 23) rfl) (qsub_c (List.mem_of_getElem? (i := 24) rfl) (qsub_c (List.mem_of_getElem? (i := 25) rfl) (qsub_c (List.mem_of_getElem? (i := 26) rfl) (qsub_c (List.mem_of_getElem? (i := 27) rfl) (qsub_c (List.mem_of_getElem? (i := 28) rfl) (qsub_c (List.mem_of_getElem? (i := 29) rfl) (qsub_c (List.mem_of_getElem? (i := 30) rfl) (qsub_c (List.mem_of_getElem? (i := 31) rfl) (qsub_c (List.mem_of_getElem? (i := 32) rfl) (qsub_c (List.mem_of_getElem? (i := 33) rfl) qsub_nil)))))))))))))))))))))))))))))))))) (fr_X11_lookFrom x1 (0 : Int32) h19 E0))
      obtain ⟨c38, h38, E0, E⟩ := qbn_el E
      have e_h38 := qfr_tr e_h30 (qfr_sub qsub_nil (fr_X0_greatest x2 h30 E0))
      exact qsome_f (Q := fun z => qfr w_X11_worst h ((fun z : Int32 × qa_M => z.2) z)) E e_h38
def w_X0_forget : List (Nat × Nat) := [(40, 15), (40, 16)]
theorem fr_X0_forget (h : qa_M) {z : qa_M} (E : m_X0_forget h = some z) : qfr w_X0_forget h ((fun z : qa_M => z) z) := by
  unfold m_X0_forget at E
  have e_h : qfr w_X0_forget h h := qfr_rf
  obtain ⟨h2, q_h2, E⟩ := qbd_el E
  have e_h2 := qfr_Ik q_h2 (List.mem_of_getElem? (i := 0) rfl) e_h
  obtain ⟨h7, q_h7, E⟩ := qbd_el E
  have e_h7 := qfr_Ik q_h7 (List.mem_of_getElem? (i := 1) rfl) e_h2
  exact qsome_f (Q := fun z => qfr w_X0_forget h ((fun z : qa_M => z) z)) E e_h7
def wf_X0_choose_b16 : List (Nat × Nat) := [(40, 15), (40, 16)]
theorem fr_X0_choose_b16 (x1 : Int32) (x2 : Int32) (h : qa_M) {z : qa_M} (E : f_X0_choose_b16 x1 x2 h = some z) : qfr wf_X0_choose_b16 h ((fun z : qa_M => z) z) := by
  unfold f_X0_choose_b16 at E
  have e_h : qfr wf_X0_choose_b16 h h := qfr_rf
  obtain ⟨h18, q_h18, E⟩ := qbd_el E
  have e_h18 := qfr_Ik q_h18 (List.mem_of_getElem? (i := 0) rfl) e_h
  obtain ⟨h23, q_h23, E⟩ := qbd_el E
  have e_h23 := qfr_Ik q_h23 (List.mem_of_getElem? (i := 1) rfl) e_h18
  exact qsome_f (Q := fun z => qfr wf_X0_choose_b16 h ((fun z : qa_M => z) z)) E e_h23
def w_X0_choose : List (Nat × Nat) := [(40, 15), (40, 16)]
theorem fr_X0_choose (x1 : Int32) (x2 : Int32) (h : qa_M) {z : qa_M} (E : m_X0_choose x1 x2 h = some z) : qfr w_X0_choose h ((fun z : qa_M => z) z) := by
  unfold m_X0_choose at E
  have e_h : qfr w_X0_choose h h := qfr_rf
  rcases qif_el E with E | E
  · exact qfr_tr e_h (qfr_sub (qsub_c (List.mem_of_getElem? (i := 0) rfl) (qsub_c (List.mem_of_getElem? (i := 1) rfl) qsub_nil)) (fr_X0_choose_b16 x1 x2 h E))
  · rcases qif_el E with E | E
    · exact qsome_f (Q := fun z => qfr w_X0_choose h ((fun z : qa_M => z) z)) E e_h
    · exact qfr_tr e_h (qfr_sub (qsub_c (List.mem_of_getElem? (i := 0) rfl) (qsub_c (List.mem_of_getElem? (i := 1) rfl) qsub_nil)) (fr_X0_choose_b16 x1 x2 h E))
def wf_X0_chooseView_b6 : List (Nat × Nat) := [(40, 15), (40, 16)]
theorem fr_X0_chooseView_b6 (x1 : Int32) (h : qa_M) {z : ((Int32 × qa_M) ⊕ qa_M)} (E : f_X0_chooseView_b6 x1 h = some z) : qfr wf_X0_chooseView_b6 h ((Sum.elim (fun z : Int32 × qa_M => z.2) (fun z : qa_M => z)) z) := by
  unfold f_X0_chooseView_b6 at E
  have e_h : qfr wf_X0_chooseView_b6 h h := qfr_rf
  rcases qif_el E with E | E
  · refine qup_f (Q := fun z => qfr wf_X0_chooseView_b6 h ((Sum.elim (fun z : Int32 × qa_M => z.2) (fun z : qa_M => z)) z)) E (fun rz E => ?_)
    exact qsome_f (Q := fun z => qfr wf_X0_chooseView_b6 h ((fun z : qa_M => z) z)) E e_h
  · obtain ⟨-, E⟩ := qck_el E
    obtain ⟨c23, h23, E0, E⟩ := qbn_el E
    have e_h23 := qfr_tr e_h (qfr_sub qsub_nil (fr_X0_greatest x1 h E0))
    obtain ⟨h26, E0, E⟩ := qbv_el E
    have e_h26 := qfr_tr e_h23 (qfr_sub (qsub_c (List.mem_of_getElem? (i := 0) rfl) (qsub_c (List.mem_of_getElem? (i := 1) rfl) qsub_nil)) (fr_X0_choose (h.1 42 x1.toNatClampNeg) c23 h23 E0))
    obtain ⟨v29, -, E⟩ := qbd_el E
    exact qsome_f (Q := fun z => qfr wf_X0_chooseView_b6 h ((Sum.elim (fun z : Int32 × qa_M => z.2) (fun z : qa_M => z)) z)) E e_h26
theorem fr_X0_chooseView_b6_loop (x1 : Int32) (h : qa_M) {z : qa_M} (E : f_X0_chooseView_b6_loop x1 h = some z) : qfr wf_X0_chooseView_b6 h ((fun z : qa_M => z) z) :=
  qlp_ind (fun sz : Int32 × qa_M => qfr wf_X0_chooseView_b6 (sz.2) ((fun z : qa_M => z) z)) (fun sz E => fr_X0_chooseView_b6 sz.1 sz.2 E) (fun sz sz2 E ih => qfr_tr (fr_X0_chooseView_b6 sz.1 sz.2 E) ih) (x1, h) E
def w_X0_chooseView : List (Nat × Nat) := [(40, 15), (40, 16)]
theorem fr_X0_chooseView (h : qa_M) {z : qa_M} (E : m_X0_chooseView h = some z) : qfr w_X0_chooseView h ((fun z : qa_M => z) z) := by
  unfold m_X0_chooseView at E
  have e_h : qfr w_X0_chooseView h h := qfr_rf
  obtain ⟨h1, E0, E⟩ := qbv_el E
  have e_h1 := qfr_tr e_h (qfr_sub (qsub_c (List.mem_of_getElem? (i := 0) rfl) (qsub_c (List.mem_of_getElem? (i := 1) rfl) qsub_nil)) (fr_X0_forget h E0))
  obtain ⟨v5, -, E⟩ := qbd_el E
  exact qfr_tr e_h1 (qfr_sub (qsub_c (List.mem_of_getElem? (i := 0) rfl) (qsub_c (List.mem_of_getElem? (i := 1) rfl) qsub_nil)) (fr_X0_chooseView_b6_loop v5 h1 E))
theorem fr_X0_chosen (x1 : Int32) (h : qa_M) {z : (Int32 × qa_M)} (E : m_X0_chosen x1 h = some z) : qfr wz h ((fun z : Int32 × qa_M => z.2) z) := by
  unfold m_X0_chosen at E
  have e_h : qfr wz h h := qfr_rf
  rcases qif_el E with E | E
  · exact qsome_f (Q := fun z => qfr wz h ((fun z : Int32 × qa_M => z.2) z)) E e_h
  · exact qsome_f (Q := fun z => qfr wz h ((fun z : Int32 × qa_M => z.2) z)) E e_h
def w_X11_next : List (Nat × Nat) := [(0, 15), (22, 5), (22, 8), (22, 9), (22, 13), (22, 16), (24, 0), (25, 0), (26, 0), (27, 0), (28, 0), (29, 0), (30, 0), (31, 0), (32, 0), (40, 1), (40, 5), (40, 6), (40, 7), (40, 15), (40, 16), (41, 0), (42, 0), (43, 0), (88, 0), (90, 0), (91, 0), (97, 0), (99, 0), (100, 0), (106, 0), (108, 0), (109, 0), (115, 0), (117, 0), (118, 0)]
theorem fr_X11_next (x1 : Int32) (x2 : Int32) (h : qa_M) {z : (Int32 × qa_M)} (E : m_X11_next x1 x2 h = some z) : qfr w_X11_next h ((fun z : Int32 × qa_M => z.2) z) := by
  unfold m_X11_next at E
  have e_h : qfr w_X11_next h h := qfr_rf
  obtain ⟨c2, h2, E0, E⟩ := qbn_el E
  have e_h2 := qfr_tr e_h (qfr_sub qsub_nil (fr_X11_known x1 h E0))
  rcases qif_el E with E | E
  · exact qsome_f (Q := fun z => qfr w_X11_next h ((fun z : Int32 × qa_M => z.2) z)) E e_h2
  · obtain ⟨c10, h10, E0, E⟩ := qbn_el E
    have e_h10 := qfr_tr e_h2 (qfr_sub qsub_nil (fr_X11_within x2 (2 : Int32) h2 E0))
    rcases qif_el E with E | E
    · exact qsome_f (Q := fun z => qfr w_X11_next h ((fun z : Int32 × qa_M => z.2) z)) E e_h10
    · rcases qif_el E with E | E
      · exact qsome_f (Q := fun z => qfr w_X11_next h ((fun z : Int32 × qa_M => z.2) z)) E e_h10
      · obtain ⟨h37, E0, E⟩ := qbv_el E
        have e_h37 := qfr_tr e_h10 (qfr_sub (qsub_c (List.mem_of_getElem? (i := 0) rfl) (qsub_c (List.mem_of_getElem? (i := 1) rfl) (qsub_c (List.mem_of_getElem? (i := 2) rfl) (qsub_c (List.mem_of_getElem? (i := 3) rfl) (qsub_c (List.mem_of_getElem? (i := 4) rfl) (qsub_c (List.mem_of_getElem? (i := 5) rfl) (qsub_c (List.mem_of_getElem? (i := 6) rfl) (qsub_c (List.mem_of_getElem? (i := 7) rfl) (qsub_c (List.mem_of_getElem? (i := 8) rfl) (qsub_c (List.mem_of_getElem? (i := 9) rfl) (qsub_c (List.mem_of_getElem? (i := 10) rfl) (qsub_c (List.mem_of_getElem? (i := 11) rfl) (qsub_c (List.mem_of_getElem? (i := 12) rfl) (qsub_c (List.mem_of_getElem? (i := 13) rfl) (qsub_c (List.mem_of_getElem? (i := 14) rfl) (qsub_c (List.mem_of_getElem? (i := 15) rfl) (qsub_c (List.mem_of_getElem? (i := 16) rfl) (qsub_c (List.mem_of_getElem? (i := 17) rfl) (qsub_c (List.mem_of_getElem? (i := 18) rfl) (qsub_c (List.mem_of_getElem? (i := 21) rfl) (qsub_c (List.mem_of_getElem? (i := 22) rfl) (qsub_c (List.mem_of_getElem? (i := 23) rfl) (qsub_c (List.mem_of_getElem? (i := 24) rfl) (qsub_c (List.mem_of_getElem? (i := 25) rfl) (qsub_c (List.mem_of_getElem? (i := 26) rfl) (qsub_c (List.mem_of_getElem? (i := 27) rfl) (qsub_c (List.mem_of_getElem? (i := 28) rfl) (qsub_c (List.mem_of_getElem? (i := 29) rfl) (qsub_c (List.mem_of_getElem? (i := 30) rfl) (qsub_c (List.mem_of_getElem? (i := 31) rfl) (qsub_c (List.mem_of_getElem? (i := 32) rfl) (qsub_c (List.mem_of_getElem? (i := 33) rfl) (qsub_c (List.mem_of_getElem? (i := 34) rfl) (qsub_c (List.mem_of_getElem? (i := 35) rfl) qsub_nil)))))))))))))))))))))))))))))))))) (fr_X11_lookFrom x1 (0 : Int32) h10 E0))
        obtain ⟨h44, E0, E⟩ := qbv_el E
        have e_h44 := qfr_tr e_h37 (qfr_sub (qsub_c (List.mem_of_getElem? (i := 19) rfl) (qsub_c (List.mem_of_getElem? (i := 20) rfl) qsub_nil)) (fr_X0_chooseView h37 E0))
        obtain ⟨c52, h52, E0, E⟩ := qbn_el E
        have e_h52 := qfr_tr e_h44 (qfr_sub qsub_nil (fr_X0_chosen x2 h44 E0))
        exact qsome_f (Q := fun z => qfr w_X11_next h ((fun z : Int32 × qa_M => z.2) z)) E e_h52
theorem fr_X0_spot (x0 : Int32) (x1 : Int32) (x2 : Int32) (x3 : Int32) (h : qa_M) {z : (Int32 × qa_M)} (E : m_X0_spot x0 x1 x2 x3 h = some z) : qfr wz h ((fun z : Int32 × qa_M => z.2) z) := by
  unfold m_X0_spot at E
  have e_h : qfr wz h h := qfr_rf
  rcases qif_el E with E | E
  · exact qsome_f (Q := fun z => qfr wz h ((fun z : Int32 × qa_M => z.2) z)) E e_h
  · exact qsome_f (Q := fun z => qfr wz h ((fun z : Int32 × qa_M => z.2) z)) E e_h
theorem fr_X0_greatestAfter_b6 (x1 : Int32) (x2 : Int32) (x3 : Int32) (x4 : Int32) (x5 : Int32) (h : qa_M) {z : ((Int32 × Int32 × Int32 × Int32 × Int32 × qa_M) ⊕ (Int32 × qa_M))} (E : f_X0_greatestAfter_b6 x1 x2 x3 x4 x5 h = some z) : qfr wz h ((Sum.elim (fun z : Int32 × Int32 × Int32 × Int32 × Int32 × qa_M => z.2.2.2.2.2) (fun z : Int32 × qa_M => z.2)) z) := by
  unfold f_X0_greatestAfter_b6 at E
  have e_h : qfr wz h h := qfr_rf
  rcases qif_el E with E | E
  · refine qup_f (Q := fun z => qfr wz h ((Sum.elim (fun z : Int32 × Int32 × Int32 × Int32 × Int32 × qa_M => z.2.2.2.2.2) (fun z : Int32 × qa_M => z.2)) z)) E (fun rz E => ?_)
    exact qsome_f (Q := fun z => qfr wz h ((fun z : Int32 × qa_M => z.2) z)) E e_h
  · obtain ⟨a16, -, E⟩ := qnn_el E
    obtain ⟨c24, h24, E0, E⟩ := qbn_el E
    have e_h24 := qfr_tr e_h (qfr_sub qsub_nil (fr_X0_spot x1 x3 x2 x5 h E0))
    obtain ⟨n27, -, E⟩ := qal_el E
    obtain ⟨-, E⟩ := qck_el E
    obtain ⟨v31, -, E⟩ := qbd_el E
    obtain ⟨v33, -, E⟩ := qbd_el E
    exact qsome_f (Q := fun z => qfr wz h ((Sum.elim (fun z : Int32 × Int32 × Int32 × Int32 × Int32 × qa_M => z.2.2.2.2.2) (fun z : Int32 × qa_M => z.2)) z)) E e_h24
theorem fr_X0_greatestAfter_b6_loop (x1 : Int32) (x2 : Int32) (x3 : Int32) (x4 : Int32) (x5 : Int32) (h : qa_M) {z : (Int32 × qa_M)} (E : f_X0_greatestAfter_b6_loop x1 x2 x3 x4 x5 h = some z) : qfr wz h ((fun z : Int32 × qa_M => z.2) z) :=
  qlp_ind (fun sz : Int32 × Int32 × Int32 × Int32 × Int32 × qa_M => qfr wz (sz.2.2.2.2.2) ((fun z : Int32 × qa_M => z.2) z)) (fun sz E => fr_X0_greatestAfter_b6 sz.1 sz.2.1 sz.2.2.1 sz.2.2.2.1 sz.2.2.2.2.1 sz.2.2.2.2.2 E) (fun sz sz2 E ih => qfr_tr (fr_X0_greatestAfter_b6 sz.1 sz.2.1 sz.2.2.1 sz.2.2.2.1 sz.2.2.2.2.1 sz.2.2.2.2.2 E) ih) (x1, x2, x3, x4, x5, h) E
theorem fr_X0_greatestAfter (x1 : Int32) (x2 : Int32) (x3 : Int32) (h : qa_M) {z : (Int32 × qa_M)} (E : m_X0_greatestAfter x1 x2 x3 h = some z) : qfr wz h ((fun z : Int32 × qa_M => z.2) z) := by
  unfold m_X0_greatestAfter at E
  have e_h : qfr wz h h := qfr_rf
  obtain ⟨v1, -, E⟩ := qbd_el E
  obtain ⟨v4, -, E⟩ := qbd_el E
  exact qfr_tr e_h (qfr_sub qsub_nil (fr_X0_greatestAfter_b6_loop x1 x2 x3 v1 v4 h E))
theorem fr_X0_chooseSecond_b39 (x1 : Int32) (x2 : Int32) (x3 : Int32) (h : qa_M) {z : ((Int32 × Int32 × Int32 × qa_M) ⊕ qa_M)} (E : f_X0_chooseSecond_b39 x1 x2 x3 h = some z) : qfr wz h ((Sum.elim (fun z : Int32 × Int32 × Int32 × qa_M => z.2.2.2) (fun z : qa_M => z)) z) := by
  unfold f_X0_chooseSecond_b39 at E
  have e_h : qfr wz h h := qfr_rf
  obtain ⟨v39, -, E⟩ := qbd_el E
  exact qsome_f (Q := fun z => qfr wz h ((Sum.elim (fun z : Int32 × Int32 × Int32 × qa_M => z.2.2.2) (fun z : qa_M => z)) z)) E e_h
def wf_X0_chooseSecond_b27 : List (Nat × Nat) := [(40, 15), (40, 16)]
theorem fr_X0_chooseSecond_b27 (x1 : Int32) (x2 : Int32) (x3 : Int32) (h : qa_M) {z : ((Int32 × Int32 × Int32 × qa_M) ⊕ qa_M)} (E : f_X0_chooseSecond_b27 x1 x2 x3 h = some z) : qfr wf_X0_chooseSecond_b27 h ((Sum.elim (fun z : Int32 × Int32 × Int32 × qa_M => z.2.2.2) (fun z : qa_M => z)) z) := by
  unfold f_X0_chooseSecond_b27 at E
  have e_h : qfr wf_X0_chooseSecond_b27 h h := qfr_rf
  obtain ⟨c33, h33, E0, E⟩ := qbn_el E
  have e_h33 := qfr_tr e_h (qfr_sub qsub_nil (fr_X0_greatestAfter x1 x2 x3 h E0))
  obtain ⟨h36, E0, E⟩ := qbv_el E
  have e_h36 := qfr_tr e_h33 (qfr_sub (qsub_c (List.mem_of_getElem? (i := 0) rfl) (qsub_c (List.mem_of_getElem? (i := 1) rfl) qsub_nil)) (fr_X0_choose x3 c33 h33 E0))
  exact qfr_tr e_h36 (qfr_sub qsub_nil (fr_X0_chooseSecond_b39 x1 x2 x3 h36 E))
def wf_X0_chooseSecond_b6 : List (Nat × Nat) := [(40, 15), (40, 16)]
theorem fr_X0_chooseSecond_b6 (x1 : Int32) (x2 : Int32) (x3 : Int32) (h : qa_M) {z : ((Int32 × Int32 × Int32 × qa_M) ⊕ qa_M)} (E : f_X0_chooseSecond_b6 x1 x2 x3 h = some z) : qfr wf_X0_chooseSecond_b6 h ((Sum.elim (fun z : Int32 × Int32 × Int32 × qa_M => z.2.2.2) (fun z : qa_M => z)) z) := by
  unfold f_X0_chooseSecond_b6 at E
  have e_h : qfr wf_X0_chooseSecond_b6 h h := qfr_rf
  rcases qif_el E with E | E
  · refine qup_f (Q := fun z => qfr wf_X0_chooseSecond_b6 h ((Sum.elim (fun z : Int32 × Int32 × Int32 × qa_M => z.2.2.2) (fun z : qa_M => z)) z)) E (fun rz E => ?_)
    exact qsome_f (Q := fun z => qfr wf_X0_chooseSecond_b6 h ((fun z : qa_M => z) z)) E e_h
  · rcases qif_el E with E | E
    · rcases qif_el E with E | E
      · exact qfr_tr e_h (qfr_sub (qsub_c (List.mem_of_getElem? (i := 0) rfl) (qsub_c (List.mem_of_getElem? (i := 1) rfl) qsub_nil)) (fr_X0_chooseSecond_b27 x1 x2 x3 h E))
      · exact qfr_tr e_h (qfr_sub qsub_nil (fr_X0_chooseSecond_b39 x1 x2 x3 h E))
    · exact qfr_tr e_h (qfr_sub (qsub_c (List.mem_of_getElem? (i := 0) rfl) (qsub_c (List.mem_of_getElem? (i := 1) rfl) qsub_nil)) (fr_X0_chooseSecond_b27 x1 x2 x3 h E))
theorem fr_X0_chooseSecond_b6_loop (x1 : Int32) (x2 : Int32) (x3 : Int32) (h : qa_M) {z : qa_M} (E : f_X0_chooseSecond_b6_loop x1 x2 x3 h = some z) : qfr wf_X0_chooseSecond_b6 h ((fun z : qa_M => z) z) :=
  qlp_ind (fun sz : Int32 × Int32 × Int32 × qa_M => qfr wf_X0_chooseSecond_b6 (sz.2.2.2) ((fun z : qa_M => z) z)) (fun sz E => fr_X0_chooseSecond_b6 sz.1 sz.2.1 sz.2.2.1 sz.2.2.2 E) (fun sz sz2 E ih => qfr_tr (fr_X0_chooseSecond_b6 sz.1 sz.2.1 sz.2.2.1 sz.2.2.2 E) ih) (x1, x2, x3, h) E
def w_X0_chooseSecond : List (Nat × Nat) := [(40, 15), (40, 16)]
theorem fr_X0_chooseSecond (x1 : Int32) (x2 : Int32) (h : qa_M) {z : qa_M} (E : m_X0_chooseSecond x1 x2 h = some z) : qfr w_X0_chooseSecond h ((fun z : qa_M => z) z) := by
  unfold m_X0_chooseSecond at E
  have e_h : qfr w_X0_chooseSecond h h := qfr_rf
  obtain ⟨h1, E0, E⟩ := qbv_el E
  have e_h1 := qfr_tr e_h (qfr_sub (qsub_c (List.mem_of_getElem? (i := 0) rfl) (qsub_c (List.mem_of_getElem? (i := 1) rfl) qsub_nil)) (fr_X0_forget h E0))
  obtain ⟨v5, -, E⟩ := qbd_el E
  exact qfr_tr e_h1 (qfr_sub (qsub_c (List.mem_of_getElem? (i := 0) rfl) (qsub_c (List.mem_of_getElem? (i := 1) rfl) qsub_nil)) (fr_X0_chooseSecond_b6_loop x1 x2 v5 h1 E))
def wf_X0_chooseFirst_b73 : List (Nat × Nat) := [(40, 15), (40, 16)]
theorem fr_X0_chooseFirst_b73 (x1 : Int32) (x2 : Int32) (h : qa_M) {z : qa_M} (E : f_X0_chooseFirst_b73 x1 x2 h = some z) : qfr wf_X0_chooseFirst_b73 h ((fun z : qa_M => z) z) := by
  unfold f_X0_chooseFirst_b73 at E
  have e_h : qfr wf_X0_chooseFirst_b73 h h := qfr_rf
  obtain ⟨h75, q_h75, E⟩ := qbd_el E
  have e_h75 := qfr_Ik q_h75 (List.mem_of_getElem? (i := 0) rfl) e_h
  obtain ⟨h80, q_h80, E⟩ := qbd_el E
  have e_h80 := qfr_Ik q_h80 (List.mem_of_getElem? (i := 1) rfl) e_h75
  exact qsome_f (Q := fun z => qfr wf_X0_chooseFirst_b73 h ((fun z : qa_M => z) z)) E e_h80
theorem fr_X0_chooseFirst_b67 (x1 : Int32) (x2 : Int32) (x3 : Int32) (h : qa_M) {z : ((Int32 × Int32 × Int32 × qa_M) ⊕ qa_M)} (E : f_X0_chooseFirst_b67 x1 x2 x3 h = some z) : qfr wz h ((Sum.elim (fun z : Int32 × Int32 × Int32 × qa_M => z.2.2.2) (fun z : qa_M => z)) z) := by
  unfold f_X0_chooseFirst_b67 at E
  have e_h : qfr wz h h := qfr_rf
  obtain ⟨v67, -, E⟩ := qbd_el E
  exact qsome_f (Q := fun z => qfr wz h ((Sum.elim (fun z : Int32 × Int32 × Int32 × qa_M => z.2.2.2) (fun z : qa_M => z)) z)) E e_h
theorem fr_X0_chooseFirst_b62 (x3 : Int32) (x4 : Int32) (h : qa_M) {z : ((Int32 × Int32 × Int32 × qa_M) ⊕ qa_M)} (E : f_X0_chooseFirst_b62 x3 x4 h = some z) : qfr wz h ((Sum.elim (fun z : Int32 × Int32 × Int32 × qa_M => z.2.2.2) (fun z : qa_M => z)) z) := by
  unfold f_X0_chooseFirst_b62 at E
  have e_h : qfr wz h h := qfr_rf
  obtain ⟨v63, -, E⟩ := qbd_el E
  obtain ⟨v66, -, E⟩ := qbd_el E
  exact qfr_tr e_h (qfr_sub qsub_nil (fr_X0_chooseFirst_b67 v63 v66 x3 h E))
theorem fr_X0_chooseFirst_b51 (x1 : Int32) (x2 : Int32) (x3 : Int32) (x4 : Int32) (h : qa_M) {z : ((Int32 × Int32 × Int32 × qa_M) ⊕ qa_M)} (E : f_X0_chooseFirst_b51 x1 x2 x3 x4 h = some z) : qfr wz h ((Sum.elim (fun z : Int32 × Int32 × Int32 × qa_M => z.2.2.2) (fun z : qa_M => z)) z) := by
  unfold f_X0_chooseFirst_b51 at E
  have e_h : qfr wz h h := qfr_rf
  rcases qif_el E with E | E
  · exact qfr_tr e_h (qfr_sub qsub_nil (fr_X0_chooseFirst_b62 x3 x4 h E))
  · rcases qif_el E with E | E
    · exact qfr_tr e_h (qfr_sub qsub_nil (fr_X0_chooseFirst_b67 x1 x2 x3 h E))
    · exact qfr_tr e_h (qfr_sub qsub_nil (fr_X0_chooseFirst_b62 x3 x4 h E))
def wf_X0_chooseFirst_b20 : List (Nat × Nat) := [(40, 15), (40, 16)]
theorem fr_X0_chooseFirst_b20 (x1 : Int32) (x2 : Int32) (x3 : Int32) (x4 : Int32) (x5 : Int32) (h : qa_M) {z : ((Int32 × Int32 × Int32 × Int32 × Int32 × qa_M) ⊕ ((Int32 × Int32 × Int32 × qa_M) ⊕ qa_M))} (E : f_X0_chooseFirst_b20 x1 x2 x3 x4 x5 h = some z) : qfr wf_X0_chooseFirst_b20 h ((Sum.elim (fun z : Int32 × Int32 × Int32 × Int32 × Int32 × qa_M => z.2.2.2.2.2) (Sum.elim (fun z : Int32 × Int32 × Int32 × qa_M => z.2.2.2) (fun z : qa_M => z))) z) := by
  unfold f_X0_chooseFirst_b20 at E
  have e_h : qfr wf_X0_chooseFirst_b20 h h := qfr_rf
  rcases qif_el E with E | E
  · refine qup_f (Q := fun z => qfr wf_X0_chooseFirst_b20 h ((Sum.elim (fun z : Int32 × Int32 × Int32 × Int32 × Int32 × qa_M => z.2.2.2.2.2) (Sum.elim (fun z : Int32 × Int32 × Int32 × qa_M => z.2.2.2) (fun z : qa_M => z))) z)) E (fun rz E => ?_)
    exact qfr_tr e_h (qfr_sub qsub_nil (fr_X0_chooseFirst_b51 x1 x2 x3 x4 h E))
  · obtain ⟨h31, E0, E⟩ := qbv_el E
    have e_h31 := qfr_tr e_h (qfr_sub (qsub_c (List.mem_of_getElem? (i := 0) rfl) (qsub_c (List.mem_of_getElem? (i := 1) rfl) qsub_nil)) (fr_X0_chooseSecond x3 x5 h E0))
    obtain ⟨v43, -, E⟩ := qbd_el E
    obtain ⟨v45, -, E⟩ := qbd_el E
    exact qsome_f (Q := fun z => qfr wf_X0_chooseFirst_b20 h ((Sum.elim (fun z : Int32 × Int32 × Int32 × Int32 × Int32 × qa_M => z.2.2.2.2.2) (Sum.elim (fun z : Int32 × Int32 × Int32 × qa_M => z.2.2.2) (fun z : qa_M => z))) z)) E e_h31
theorem fr_X0_chooseFirst_b20_loop (x1 : Int32) (x2 : Int32) (x3 : Int32) (x4 : Int32) (x5 : Int32) (h : qa_M) {z : ((Int32 × Int32 × Int32 × qa_M) ⊕ qa_M)} (E : f_X0_chooseFirst_b20_loop x1 x2 x3 x4 x5 h = some z) : qfr wf_X0_chooseFirst_b20 h ((Sum.elim (fun z : Int32 × Int32 × Int32 × qa_M => z.2.2.2) (fun z : qa_M => z)) z) :=
  qlp_ind (fun sz : Int32 × Int32 × Int32 × Int32 × Int32 × qa_M => qfr wf_X0_chooseFirst_b20 (sz.2.2.2.2.2) ((Sum.elim (fun z : Int32 × Int32 × Int32 × qa_M => z.2.2.2) (fun z : qa_M => z)) z)) (fun sz E => fr_X0_chooseFirst_b20 sz.1 sz.2.1 sz.2.2.1 sz.2.2.2.1 sz.2.2.2.2.1 sz.2.2.2.2.2 E) (fun sz sz2 E ih => qfr_tr (fr_X0_chooseFirst_b20 sz.1 sz.2.1 sz.2.2.1 sz.2.2.2.1 sz.2.2.2.2.1 sz.2.2.2.2.2 E) ih) (x1, x2, x3, x4, x5, h) E
def wf_X0_chooseFirst_b6 : List (Nat × Nat) := [(40, 15), (40, 16)]
theorem fr_X0_chooseFirst_b6 (x1 : Int32) (x2 : Int32) (x3 : Int32) (h : qa_M) {z : ((Int32 × Int32 × Int32 × qa_M) ⊕ qa_M)} (E : f_X0_chooseFirst_b6 x1 x2 x3 h = some z) : qfr wf_X0_chooseFirst_b6 h ((Sum.elim (fun z : Int32 × Int32 × Int32 × qa_M => z.2.2.2) (fun z : qa_M => z)) z) := by
  unfold f_X0_chooseFirst_b6 at E
  have e_h : qfr wf_X0_chooseFirst_b6 h h := qfr_rf
  rcases qif_el E with E | E
  · refine qup_f (Q := fun z => qfr wf_X0_chooseFirst_b6 h ((Sum.elim (fun z : Int32 × Int32 × Int32 × qa_M => z.2.2.2) (fun z : qa_M => z)) z)) E (fun rz E => ?_)
    exact qfr_tr e_h (qfr_sub (qsub_c (List.mem_of_getElem? (i := 0) rfl) (qsub_c (List.mem_of_getElem? (i := 1) rfl) qsub_nil)) (fr_X0_chooseFirst_b73 x1 x2 h E))
  · obtain ⟨v15, -, E⟩ := qbd_el E
    obtain ⟨v18, -, E⟩ := qbd_el E
    exact qfr_tr e_h (qfr_sub (qsub_c (List.mem_of_getElem? (i := 0) rfl) (qsub_c (List.mem_of_getElem? (i := 1) rfl) qsub_nil)) (fr_X0_chooseFirst_b20_loop x1 x2 x3 v15 v18 h E))
theorem fr_X0_chooseFirst_b6_loop (x1 : Int32) (x2 : Int32) (x3 : Int32) (h : qa_M) {z : qa_M} (E : f_X0_chooseFirst_b6_loop x1 x2 x3 h = some z) : qfr wf_X0_chooseFirst_b6 h ((fun z : qa_M => z) z) :=
  qlp_ind (fun sz : Int32 × Int32 × Int32 × qa_M => qfr wf_X0_chooseFirst_b6 (sz.2.2.2) ((fun z : qa_M => z) z)) (fun sz E => fr_X0_chooseFirst_b6 sz.1 sz.2.1 sz.2.2.1 sz.2.2.2 E) (fun sz sz2 E ih => qfr_tr (fr_X0_chooseFirst_b6 sz.1 sz.2.1 sz.2.2.1 sz.2.2.2 E) ih) (x1, x2, x3, h) E
def w_X0_chooseFirst : List (Nat × Nat) := [(40, 15), (40, 16)]
theorem fr_X0_chooseFirst (h : qa_M) {z : qa_M} (E : m_X0_chooseFirst h = some z) : qfr w_X0_chooseFirst h ((fun z : qa_M => z) z) := by
  unfold m_X0_chooseFirst at E
  have e_h : qfr w_X0_chooseFirst h h := qfr_rf
  obtain ⟨v1, -, E⟩ := qbd_el E
  obtain ⟨v3, -, E⟩ := qbd_el E
  obtain ⟨v5, -, E⟩ := qbd_el E
  exact qfr_tr e_h (qfr_sub (qsub_c (List.mem_of_getElem? (i := 0) rfl) (qsub_c (List.mem_of_getElem? (i := 1) rfl) qsub_nil)) (fr_X0_chooseFirst_b6_loop v1 v3 v5 h E))
def w_X11_fresh : List (Nat × Nat) := [(0, 15), (22, 5), (22, 8), (22, 9), (22, 13), (22, 16), (24, 0), (25, 0), (26, 0), (27, 0), (28, 0), (29, 0), (30, 0), (31, 0), (32, 0), (40, 1), (40, 5), (40, 6), (40, 7), (40, 15), (40, 16), (41, 0), (42, 0), (43, 0), (88, 0), (90, 0), (91, 0), (97, 0), (99, 0), (100, 0), (106, 0), (108, 0), (109, 0), (115, 0), (117, 0), (118, 0)]
theorem fr_X11_fresh (x1 : Int32) (x2 : Int32) (x3 : Int32) (h : qa_M) {z : (Int32 × qa_M)} (E : m_X11_fresh x1 x2 x3 h = some z) : qfr w_X11_fresh h ((fun z : Int32 × qa_M => z.2) z) := by
  unfold m_X11_fresh at E
  have e_h : qfr w_X11_fresh h h := qfr_rf
  obtain ⟨c2, h2, E0, E⟩ := qbn_el E
  have e_h2 := qfr_tr e_h (qfr_sub qsub_nil (fr_X11_known x1 h E0))
  rcases qif_el E with E | E
  · exact qsome_f (Q := fun z => qfr w_X11_fresh h ((fun z : Int32 × qa_M => z.2) z)) E e_h2
  · rcases qif_el E with E | E
    · exact qsome_f (Q := fun z => qfr w_X11_fresh h ((fun z : Int32 × qa_M => z.2) z)) E e_h2
    · rcases qif_el E with E | E
      · exact qsome_f (Q := fun z => qfr w_X11_fresh h ((fun z : Int32 × qa_M => z.2) z)) E e_h2
      · obtain ⟨c21, h21, E0, E⟩ := qbn_el E
        have e_h21 := qfr_tr e_h2 (qfr_sub qsub_nil (fr_X11_within x3 (2 : Int32) h2 E0))
        rcases qif_el E with E | E
        · exact qsome_f (Q := fun z => qfr w_X11_fresh h ((fun z : Int32 × qa_M => z.2) z)) E e_h21
        · obtain ⟨c36, h36, E0, E⟩ := qbn_el E
          have e_h36 := qfr_tr e_h21 (qfr_sub qsub_nil (fr_X3_open h21 E0))
          rcases qif_el E with E | E
          · exact qsome_f (Q := fun z => qfr w_X11_fresh h ((fun z : Int32 × qa_M => z.2) z)) E e_h36
          · obtain ⟨h50, E0, E⟩ := qbv_el E
            have e_h50 := qfr_tr e_h36 (qfr_sub (qsub_c (List.mem_of_getElem? (i := 0) rfl) (qsub_c (List.mem_of_getElem? (i := 1) rfl) (qsub_c (List.mem_of_getElem? (i := 2) rfl) (qsub_c (List.mem_of_getElem? (i := 3) rfl) (qsub_c (List.mem_of_getElem? (i := 4) rfl) (qsub_c (List.mem_of_getElem? (i := 5) rfl) (qsub_c (List.mem_of_getElem? (i := 6) rfl) (qsub_c (List.mem_of_getElem? (i := 7) rfl) (qsub_c (List.mem_of_getElem? (i := 8) rfl) (qsub_c (List.mem_of_getElem? (i := 9) rfl) (qsub_c (List.mem_of_getElem? (i := 10) rfl) (qsub_c (List.mem_of_getElem? (i := 11) rfl) (qsub_c (List.mem_of_getElem? (i := 12) rfl) (qsub_c (List.mem_of_getElem? (i := 13) rfl) (qsub_c (List.mem_of_getElem? (i := 14) rfl) (qsub_c (List.mem_of_getElem? (i := 15) rfl) (qsub_c (List.mem_of_getElem? (i := 16) rfl) (qsub_c (List.mem_of_getElem? (i := 17) rfl) (qsub_c (List.mem_of_getElem? (i := 18) rfl) (qsub_c (List.mem_of_getElem? (i := 21) rfl) (qsub_c (List.mem_of_getElem? (i := 22) rfl) (qsub_c (List.mem_of_getElem? (i := 23) rfl) (qsub_c (List.mem_of_getElem? (i := 24) rfl) (qsub_c (List.mem_of_getElem? (i := 25) rfl) (qsub_c (List.mem_of_getElem? (i := 26) rfl) (qsub_c (List.mem_of_getElem? (i := 27) rfl) (qsub_c (List.mem_of_getElem? (i := 28) rfl) (qsub_c (List.mem_of_getElem? (i := 29) rfl) (qsub_c (List.mem_of_getElem? (i := 30) rfl) (qsub_c (List.mem_of_getElem? (i := 31) rfl) (qsub_c (List.mem_of_getElem? (i := 32) rfl) (qsub_c (List.mem_of_getElem? (i := 33) rfl) (qsub_c (List.mem_of_getElem? (i := 34) rfl) (qsub_c (List.mem_of_getElem? (i := 35) rfl) qsub_nil)))))))))))))))))))))))))))))))))) (fr_X11_lookFrom x1 x2 h36 E0))
            obtain ⟨h57, E0, E⟩ := qbv_el E
            have e_h57 := qfr_tr e_h50 (qfr_sub (qsub_c (List.mem_of_getElem? (i := 19) rfl) (qsub_c (List.mem_of_getElem? (i := 20) rfl) qsub_nil)) (fr_X0_chooseView h50 E0))
            obtain ⟨c65, h65, E0, E⟩ := qbn_el E
            have e_h65 := qfr_tr e_h57 (qfr_sub qsub_nil (fr_X0_chosen x3 h57 E0))
            exact qsome_f (Q := fun z => qfr w_X11_fresh h ((fun z : Int32 × qa_M => z.2) z)) E e_h65
theorem fr_X10_spread_b115 (x2 : Int32) (x3 : Int64) (x5 : Int32) (h : qa_M) {z : ((Int32 × Int64 × Int32 × qa_M) ⊕ qa_M)} (E : f_X10_spread_b115 x2 x3 x5 h = some z) : qfr wz h ((Sum.elim (fun z : Int32 × Int64 × Int32 × qa_M => z.2.2.2) (fun z : qa_M => z)) z) := by
  unfold f_X10_spread_b115 at E
  have e_h : qfr wz h h := qfr_rf
  obtain ⟨c117, h117, E0, E⟩ := qbn_el E
  have e_h117 := qfr_tr e_h (qfr_sub qsub_nil (fr_X2_grow x3 h E0))
  obtain ⟨c121, h121, E0, E⟩ := qbn_el E
  have e_h121 := qfr_tr e_h117 (qfr_sub qsub_nil (fr_X3_open h117 E0))
  obtain ⟨v126, -, E⟩ := qbd_el E
  obtain ⟨v127, -, E⟩ := qbd_el E
  exact qsome_f (Q := fun z => qfr wz h ((Sum.elim (fun z : Int32 × Int64 × Int32 × qa_M => z.2.2.2) (fun z : qa_M => z)) z)) E e_h121
theorem fr_X10_spread_b109 (x2 : Int32) (x3 : Int64) (x5 : Int32) (x6 : Int32) (h : qa_M) {z : ((Int32 × Int64 × Int32 × Int32 × qa_M) ⊕ ((Int32 × Int64 × Int32 × qa_M) ⊕ qa_M))} (E : f_X10_spread_b109 x2 x3 x5 x6 h = some z) : qfr wz h ((Sum.elim (fun z : Int32 × Int64 × Int32 × Int32 × qa_M => z.2.2.2.2) (Sum.elim (fun z : Int32 × Int64 × Int32 × qa_M => z.2.2.2) (fun z : qa_M => z))) z) := by
  unfold f_X10_spread_b109 at E
  have e_h : qfr wz h h := qfr_rf
  obtain ⟨v109, -, E⟩ := qbd_el E
  exact qsome_f (Q := fun z => qfr wz h ((Sum.elim (fun z : Int32 × Int64 × Int32 × Int32 × qa_M => z.2.2.2.2) (Sum.elim (fun z : Int32 × Int64 × Int32 × qa_M => z.2.2.2) (fun z : qa_M => z))) z)) E e_h
def wf_X10_spread_b54 : List (Nat × Nat) := [(49, 0)]
theorem fr_X10_spread_b54 (x2 : Int32) (x3 : Int64) (x5 : Int32) (x6 : Int32) (h : qa_M) {z : ((Int32 × Int64 × Int32 × Int32 × qa_M) ⊕ ((Int32 × Int64 × Int32 × qa_M) ⊕ qa_M))} (E : f_X10_spread_b54 x2 x3 x5 x6 h = some z) : qfr wf_X10_spread_b54 h ((Sum.elim (fun z : Int32 × Int64 × Int32 × Int32 × qa_M => z.2.2.2.2) (Sum.elim (fun z : Int32 × Int64 × Int32 × qa_M => z.2.2.2) (fun z : qa_M => z))) z) := by
  unfold f_X10_spread_b54 at E
  have e_h : qfr wf_X10_spread_b54 h h := qfr_rf
  rcases qif_el E with E | E
  · refine qup_f (Q := fun z => qfr wf_X10_spread_b54 h ((Sum.elim (fun z : Int32 × Int64 × Int32 × Int32 × qa_M => z.2.2.2.2) (Sum.elim (fun z : Int32 × Int64 × Int32 × qa_M => z.2.2.2) (fun z : qa_M => z))) z)) E (fun rz E => ?_)
    exact qfr_tr e_h (qfr_sub qsub_nil (fr_X10_spread_b115 x2 x3 x5 h E))
  · obtain ⟨v70, -, E⟩ := qbd_el E
    obtain ⟨-, E⟩ := qck_el E
    rcases qif_el E with E | E
    · exact qfr_tr e_h (qfr_sub qsub_nil (fr_X10_spread_b109 x2 x3 x5 x6 h E))
    · obtain ⟨-, E⟩ := qck_el E
      rcases qif_el E with E | E
      · obtain ⟨-, E⟩ := qck_el E
        obtain ⟨h108, q_h108, E⟩ := qbd_el E
        have e_h108 := qfr_I0 q_h108 (List.mem_of_getElem? (i := 0) rfl) e_h
        exact qfr_tr e_h108 (qfr_sub qsub_nil (fr_X10_spread_b109 x2 x3 x5 x6 h108 E))
      · exact qfr_tr e_h (qfr_sub qsub_nil (fr_X10_spread_b109 x2 x3 x5 x6 h E))
theorem fr_X10_spread_b54_loop (x2 : Int32) (x3 : Int64) (x5 : Int32) (x6 : Int32) (h : qa_M) {z : ((Int32 × Int64 × Int32 × qa_M) ⊕ qa_M)} (E : f_X10_spread_b54_loop x2 x3 x5 x6 h = some z) : qfr wf_X10_spread_b54 h ((Sum.elim (fun z : Int32 × Int64 × Int32 × qa_M => z.2.2.2) (fun z : qa_M => z)) z) :=
  qlp_ind (fun sz : Int32 × Int64 × Int32 × Int32 × qa_M => qfr wf_X10_spread_b54 (sz.2.2.2.2) ((Sum.elim (fun z : Int32 × Int64 × Int32 × qa_M => z.2.2.2) (fun z : qa_M => z)) z)) (fun sz E => fr_X10_spread_b54 sz.1 sz.2.1 sz.2.2.1 sz.2.2.2.1 sz.2.2.2.2 E) (fun sz sz2 E ih => qfr_tr (fr_X10_spread_b54 sz.1 sz.2.1 sz.2.2.1 sz.2.2.2.1 sz.2.2.2.2 E) ih) (x2, x3, x5, x6, h) E
def wf_X10_spread_b44 : List (Nat × Nat) := [(49, 0)]
theorem fr_X10_spread_b44 (x2 : Int32) (x3 : Int64) (x5 : Int32) (h : qa_M) {z : ((Int32 × Int64 × Int32 × qa_M) ⊕ qa_M)} (E : f_X10_spread_b44 x2 x3 x5 h = some z) : qfr wf_X10_spread_b44 h ((Sum.elim (fun z : Int32 × Int64 × Int32 × qa_M => z.2.2.2) (fun z : qa_M => z)) z) := by
  unfold f_X10_spread_b44 at E
  have e_h : qfr wf_X10_spread_b44 h h := qfr_rf
  rcases qif_el E with E | E
  · refine qup_f (Q := fun z => qfr wf_X10_spread_b44 h ((Sum.elim (fun z : Int32 × Int64 × Int32 × qa_M => z.2.2.2) (fun z : qa_M => z)) z)) E (fun rz E => ?_)
    exact qsome_f (Q := fun z => qfr wf_X10_spread_b44 h ((fun z : qa_M => z) z)) E e_h
  · obtain ⟨v52, -, E⟩ := qbd_el E
    exact qfr_tr e_h (qfr_sub (qsub_c (List.mem_of_getElem? (i := 0) rfl) qsub_nil) (fr_X10_spread_b54_loop x2 x3 x5 v52 h E))
theorem fr_X10_spread_b44_loop (x2 : Int32) (x3 : Int64) (x5 : Int32) (h : qa_M) {z : qa_M} (E : f_X10_spread_b44_loop x2 x3 x5 h = some z) : qfr wf_X10_spread_b44 h ((fun z : qa_M => z) z) :=
  qlp_ind (fun sz : Int32 × Int64 × Int32 × qa_M => qfr wf_X10_spread_b44 (sz.2.2.2) ((fun z : qa_M => z) z)) (fun sz E => fr_X10_spread_b44 sz.1 sz.2.1 sz.2.2.1 sz.2.2.2 E) (fun sz sz2 E ih => qfr_tr (fr_X10_spread_b44 sz.1 sz.2.1 sz.2.2.1 sz.2.2.2 E) ih) (x2, x3, x5, h) E
def wf_X10_spread_b41 : List (Nat × Nat) := [(49, 0)]
theorem fr_X10_spread_b41 (x2 : Int32) (x3 : Int64) (h : qa_M) {z : qa_M} (E : f_X10_spread_b41 x2 x3 h = some z) : qfr wf_X10_spread_b41 h ((fun z : qa_M => z) z) := by
  unfold f_X10_spread_b41 at E
  have e_h : qfr wf_X10_spread_b41 h h := qfr_rf
  obtain ⟨v42, -, E⟩ := qbd_el E
  exact qfr_tr e_h (qfr_sub (qsub_c (List.mem_of_getElem? (i := 0) rfl) qsub_nil) (fr_X10_spread_b44_loop x2 x3 v42 h E))
def wf_X10_spread_b12 : List (Nat × Nat) := [(49, 0)]
theorem fr_X10_spread_b12 (x2 : Int32) (x3 : Int64) (x5 : Int32) (h : qa_M) {z : ((Int32 × Int64 × Int32 × qa_M) ⊕ qa_M)} (E : f_X10_spread_b12 x2 x3 x5 h = some z) : qfr wf_X10_spread_b12 h ((Sum.elim (fun z : Int32 × Int64 × Int32 × qa_M => z.2.2.2) (fun z : qa_M => z)) z) := by
  unfold f_X10_spread_b12 at E
  have e_h : qfr wf_X10_spread_b12 h h := qfr_rf
  rcases qif_el E with E | E
  · refine qup_f (Q := fun z => qfr wf_X10_spread_b12 h ((Sum.elim (fun z : Int32 × Int64 × Int32 × qa_M => z.2.2.2) (fun z : qa_M => z)) z)) E (fun rz E => ?_)
    exact qfr_tr e_h (qfr_sub (qsub_c (List.mem_of_getElem? (i := 0) rfl) qsub_nil) (fr_X10_spread_b41 x2 x3 h E))
  · obtain ⟨-, E⟩ := qck_el E
    obtain ⟨h34, q_h34, E⟩ := qbd_el E
    have e_h34 := qfr_I0 q_h34 (List.mem_of_getElem? (i := 0) rfl) e_h
    obtain ⟨v35, -, E⟩ := qbd_el E
    exact qsome_f (Q := fun z => qfr wf_X10_spread_b12 h ((Sum.elim (fun z : Int32 × Int64 × Int32 × qa_M => z.2.2.2) (fun z : qa_M => z)) z)) E e_h34
theorem fr_X10_spread_b12_loop (x2 : Int32) (x3 : Int64) (x5 : Int32) (h : qa_M) {z : qa_M} (E : f_X10_spread_b12_loop x2 x3 x5 h = some z) : qfr wf_X10_spread_b12 h ((fun z : qa_M => z) z) :=
  qlp_ind (fun sz : Int32 × Int64 × Int32 × qa_M => qfr wf_X10_spread_b12 (sz.2.2.2) ((fun z : qa_M => z) z)) (fun sz E => fr_X10_spread_b12 sz.1 sz.2.1 sz.2.2.1 sz.2.2.2 E) (fun sz sz2 E ih => qfr_tr (fr_X10_spread_b12 sz.1 sz.2.1 sz.2.2.1 sz.2.2.2 E) ih) (x2, x3, x5, h) E
def w_X10_spread : List (Nat × Nat) := [(49, 0)]
theorem fr_X10_spread (x2 : Int32) (h : qa_M) {z : qa_M} (E : m_X10_spread x2 h = some z) : qfr w_X10_spread h ((fun z : qa_M => z) z) := by
  unfold m_X10_spread at E
  have e_h : qfr w_X10_spread h h := qfr_rf
  obtain ⟨-, E⟩ := qck_el E
  obtain ⟨v8, -, E⟩ := qbd_el E
  obtain ⟨v10, -, E⟩ := qbd_el E
  exact qfr_tr e_h (qfr_sub (qsub_c (List.mem_of_getElem? (i := 0) rfl) qsub_nil) (fr_X10_spread_b12_loop x2 v8 v10 h E))
theorem fr_X10_goOn_b93 (x2 : Int32) (x3 : Int32) (x4 : Int32) (x5 : Int32) (x6 : Int32) (h : qa_M) {z : ((Int32 × Int32 × Int32 × Int32 × Int32 × qa_M) ⊕ qa_M)} (E : f_X10_goOn_b93 x2 x3 x4 x5 x6 h = some z) : qfr wz h ((Sum.elim (fun z : Int32 × Int32 × Int32 × Int32 × Int32 × qa_M => z.2.2.2.2.2) (fun z : qa_M => z)) z) := by
  unfold f_X10_goOn_b93 at E
  have e_h : qfr wz h h := qfr_rf
  obtain ⟨v93, -, E⟩ := qbd_el E
  exact qsome_f (Q := fun z => qfr wz h ((Sum.elim (fun z : Int32 × Int32 × Int32 × Int32 × Int32 × qa_M => z.2.2.2.2.2) (fun z : qa_M => z)) z)) E e_h
def wf_X10_goOn_b17 : List (Nat × Nat) := [(50, 0)]
theorem fr_X10_goOn_b17 (x2 : Int32) (x3 : Int32) (x4 : Int32) (x5 : Int32) (x6 : Int32) (h : qa_M) {z : ((Int32 × Int32 × Int32 × Int32 × Int32 × qa_M) ⊕ qa_M)} (E : f_X10_goOn_b17 x2 x3 x4 x5 x6 h = some z) : qfr wf_X10_goOn_b17 h ((Sum.elim (fun z : Int32 × Int32 × Int32 × Int32 × Int32 × qa_M => z.2.2.2.2.2) (fun z : qa_M => z)) z) := by
  unfold f_X10_goOn_b17 at E
  have e_h : qfr wf_X10_goOn_b17 h h := qfr_rf
  rcases qif_el E with E | E
  · refine qup_f (Q := fun z => qfr wf_X10_goOn_b17 h ((Sum.elim (fun z : Int32 × Int32 × Int32 × Int32 × Int32 × qa_M => z.2.2.2.2.2) (fun z : qa_M => z)) z)) E (fun rz E => ?_)
    exact qsome_f (Q := fun z => qfr wf_X10_goOn_b17 h ((fun z : qa_M => z) z)) E e_h
  · rcases qif_el E with E | E
    · refine qup_f (Q := fun z => qfr wf_X10_goOn_b17 h ((Sum.elim (fun z : Int32 × Int32 × Int32 × Int32 × Int32 × qa_M => z.2.2.2.2.2) (fun z : qa_M => z)) z)) E (fun rz E => ?_)
      exact qsome_f (Q := fun z => qfr wf_X10_goOn_b17 h ((fun z : qa_M => z) z)) E e_h
    · rcases qif_el E with E | E
      · exact qfr_tr e_h (qfr_sub qsub_nil (fr_X10_goOn_b93 x2 x3 x4 x5 x6 h E))
      · obtain ⟨v58, -, E⟩ := qbd_el E
        obtain ⟨-, E⟩ := qck_el E
        obtain ⟨-, E⟩ := qck_el E
        obtain ⟨-, E⟩ := qck_el E
        obtain ⟨h92, q_h92, E⟩ := qbd_el E
        have e_h92 := qfr_I0 q_h92 (List.mem_of_getElem? (i := 0) rfl) e_h
        exact qfr_tr e_h92 (qfr_sub qsub_nil (fr_X10_goOn_b93 x2 x3 x4 x5 x6 h92 E))
theorem fr_X10_goOn_b17_loop (x2 : Int32) (x3 : Int32) (x4 : Int32) (x5 : Int32) (x6 : Int32) (h : qa_M) {z : qa_M} (E : f_X10_goOn_b17_loop x2 x3 x4 x5 x6 h = some z) : qfr wf_X10_goOn_b17 h ((fun z : qa_M => z) z) :=
  qlp_ind (fun sz : Int32 × Int32 × Int32 × Int32 × Int32 × qa_M => qfr wf_X10_goOn_b17 (sz.2.2.2.2.2) ((fun z : qa_M => z) z)) (fun sz E => fr_X10_goOn_b17 sz.1 sz.2.1 sz.2.2.1 sz.2.2.2.1 sz.2.2.2.2.1 sz.2.2.2.2.2 E) (fun sz sz2 E ih => qfr_tr (fr_X10_goOn_b17 sz.1 sz.2.1 sz.2.2.1 sz.2.2.2.1 sz.2.2.2.2.1 sz.2.2.2.2.2 E) ih) (x2, x3, x4, x5, x6, h) E
def w_X10_goOn : List (Nat × Nat) := [(50, 0)]
theorem fr_X10_goOn (x2 : Int32) (x3 : Int32) (x4 : Int32) (h : qa_M) {z : qa_M} (E : m_X10_goOn x2 x3 x4 h = some z) : qfr w_X10_goOn h ((fun z : qa_M => z) z) := by
  unfold m_X10_goOn at E
  have e_h : qfr w_X10_goOn h h := qfr_rf
  obtain ⟨-, E⟩ := qck_el E
  obtain ⟨v12, -, E⟩ := qbd_el E
  obtain ⟨v15, -, E⟩ := qbd_el E
  exact qfr_tr e_h (qfr_sub (qsub_c (List.mem_of_getElem? (i := 0) rfl) qsub_nil) (fr_X10_goOn_b17_loop x2 x3 x4 v12 v15 h E))
theorem fr_X10_fewestSteps_b142 (x5 : Int32) (h : qa_M) {z : (Int32 × qa_M)} (E : f_X10_fewestSteps_b142 x5 h = some z) : qfr wz h ((fun z : Int32 × qa_M => z.2) z) := by
  unfold f_X10_fewestSteps_b142 at E
  have e_h : qfr wz h h := qfr_rf
  rcases qif_el E with E | E
  · exact qsome_f (Q := fun z => qfr wz h ((fun z : Int32 × qa_M => z.2) z)) E e_h
  · exact qsome_f (Q := fun z => qfr wz h ((fun z : Int32 × qa_M => z.2) z)) E e_h
theorem fr_X10_fewestSteps_b107 (x4 : Int32) (x5 : Int32) (x6 : Int32) (h : qa_M) {z : ((Int32 × Int32 × Int32 × qa_M) ⊕ (Int32 × qa_M))} (E : f_X10_fewestSteps_b107 x4 x5 x6 h = some z) : qfr wz h ((Sum.elim (fun z : Int32 × Int32 × Int32 × qa_M => z.2.2.2) (fun z : Int32 × qa_M => z.2)) z) := by
  unfold f_X10_fewestSteps_b107 at E
  have e_h : qfr wz h h := qfr_rf
  rcases qif_el E with E | E
  · refine qup_f (Q := fun z => qfr wz h ((Sum.elim (fun z : Int32 × Int32 × Int32 × qa_M => z.2.2.2) (fun z : Int32 × qa_M => z.2)) z)) E (fun rz E => ?_)
    exact qfr_tr e_h (qfr_sub qsub_nil (fr_X10_fewestSteps_b142 x5 h E))
  · obtain ⟨-, E⟩ := qck_el E
    obtain ⟨v134, -, E⟩ := qbd_el E
    obtain ⟨v136, -, E⟩ := qbd_el E
    exact qsome_f (Q := fun z => qfr wz h ((Sum.elim (fun z : Int32 × Int32 × Int32 × qa_M => z.2.2.2) (fun z : Int32 × qa_M => z.2)) z)) E e_h
theorem fr_X10_fewestSteps_b107_loop (x4 : Int32) (x5 : Int32) (x6 : Int32) (h : qa_M) {z : (Int32 × qa_M)} (E : f_X10_fewestSteps_b107_loop x4 x5 x6 h = some z) : qfr wz h ((fun z : Int32 × qa_M => z.2) z) :=
  qlp_ind (fun sz : Int32 × Int32 × Int32 × qa_M => qfr wz (sz.2.2.2) ((fun z : Int32 × qa_M => z.2) z)) (fun sz E => fr_X10_fewestSteps_b107 sz.1 sz.2.1 sz.2.2.1 sz.2.2.2 E) (fun sz sz2 E ih => qfr_tr (fr_X10_fewestSteps_b107 sz.1 sz.2.1 sz.2.2.1 sz.2.2.2 E) ih) (x4, x5, x6, h) E
theorem fr_X10_fewestSteps_b100 (x4 : Int32) (h : qa_M) {z : (Int32 × qa_M)} (E : f_X10_fewestSteps_b100 x4 h = some z) : qfr wz h ((fun z : Int32 × qa_M => z.2) z) := by
  unfold f_X10_fewestSteps_b100 at E
  have e_h : qfr wz h h := qfr_rf
  obtain ⟨v102, -, E⟩ := qbd_el E
  obtain ⟨v105, -, E⟩ := qbd_el E
  exact qfr_tr e_h (qfr_sub qsub_nil (fr_X10_fewestSteps_b107_loop x4 v102 v105 h E))
theorem fr_X10_fewestSteps_b94 (x4 : Int32) (x5 : Int32) (h : qa_M) {z : ((Int32 × Int32 × qa_M) ⊕ (Int32 × qa_M))} (E : f_X10_fewestSteps_b94 x4 x5 h = some z) : qfr wz h ((Sum.elim (fun z : Int32 × Int32 × qa_M => z.2.2) (fun z : Int32 × qa_M => z.2)) z) := by
  unfold f_X10_fewestSteps_b94 at E
  have e_h : qfr wz h h := qfr_rf
  obtain ⟨v94, -, E⟩ := qbd_el E
  exact qsome_f (Q := fun z => qfr wz h ((Sum.elim (fun z : Int32 × Int32 × qa_M => z.2.2) (fun z : Int32 × qa_M => z.2)) z)) E e_h
def wf_X10_fewestSteps_b68 : List (Nat × Nat) := [(50, 0)]
theorem fr_X10_fewestSteps_b68 (x4 : Int32) (x5 : Int32) (x6 : Int32) (h : qa_M) {z : ((Int32 × Int32 × Int32 × qa_M) ⊕ ((Int32 × Int32 × qa_M) ⊕ (Int32 × qa_M)))} (E : f_X10_fewestSteps_b68 x4 x5 x6 h = some z) : qfr wf_X10_fewestSteps_b68 h ((Sum.elim (fun z : Int32 × Int32 × Int32 × qa_M => z.2.2.2) (Sum.elim (fun z : Int32 × Int32 × qa_M => z.2.2) (fun z : Int32 × qa_M => z.2))) z) := by
  unfold f_X10_fewestSteps_b68 at E
  have e_h : qfr wf_X10_fewestSteps_b68 h h := qfr_rf
  rcases qif_el E with E | E
  · refine qup_f (Q := fun z => qfr wf_X10_fewestSteps_b68 h ((Sum.elim (fun z : Int32 × Int32 × Int32 × qa_M => z.2.2.2) (Sum.elim (fun z : Int32 × Int32 × qa_M => z.2.2) (fun z : Int32 × qa_M => z.2))) z)) E (fun rz E => ?_)
    exact qfr_tr e_h (qfr_sub qsub_nil (fr_X10_fewestSteps_b94 x4 x5 h E))
  · obtain ⟨h85, E0, E⟩ := qbv_el E
    have e_h85 := qfr_tr e_h (qfr_sub (qsub_c (List.mem_of_getElem? (i := 0) rfl) qsub_nil) (fr_X10_goOn x4 x5 x6 h E0))
    obtain ⟨v88, -, E⟩ := qbd_el E
    exact qsome_f (Q := fun z => qfr wf_X10_fewestSteps_b68 h ((Sum.elim (fun z : Int32 × Int32 × Int32 × qa_M => z.2.2.2) (Sum.elim (fun z : Int32 × Int32 × qa_M => z.2.2) (fun z : Int32 × qa_M => z.2))) z)) E e_h85
theorem fr_X10_fewestSteps_b68_loop (x4 : Int32) (x5 : Int32) (x6 : Int32) (h : qa_M) {z : ((Int32 × Int32 × qa_M) ⊕ (Int32 × qa_M))} (E : f_X10_fewestSteps_b68_loop x4 x5 x6 h = some z) : qfr wf_X10_fewestSteps_b68 h ((Sum.elim (fun z : Int32 × Int32 × qa_M => z.2.2) (fun z : Int32 × qa_M => z.2)) z) :=
  qlp_ind (fun sz : Int32 × Int32 × Int32 × qa_M => qfr wf_X10_fewestSteps_b68 (sz.2.2.2) ((Sum.elim (fun z : Int32 × Int32 × qa_M => z.2.2) (fun z : Int32 × qa_M => z.2)) z)) (fun sz E => fr_X10_fewestSteps_b68 sz.1 sz.2.1 sz.2.2.1 sz.2.2.2 E) (fun sz sz2 E ih => qfr_tr (fr_X10_fewestSteps_b68 sz.1 sz.2.1 sz.2.2.1 sz.2.2.2 E) ih) (x4, x5, x6, h) E
def wf_X10_fewestSteps_b58 : List (Nat × Nat) := [(50, 0)]
theorem fr_X10_fewestSteps_b58 (x4 : Int32) (x5 : Int32) (h : qa_M) {z : ((Int32 × Int32 × qa_M) ⊕ (Int32 × qa_M))} (E : f_X10_fewestSteps_b58 x4 x5 h = some z) : qfr wf_X10_fewestSteps_b58 h ((Sum.elim (fun z : Int32 × Int32 × qa_M => z.2.2) (fun z : Int32 × qa_M => z.2)) z) := by
  unfold f_X10_fewestSteps_b58 at E
  have e_h : qfr wf_X10_fewestSteps_b58 h h := qfr_rf
  rcases qif_el E with E | E
  · refine qup_f (Q := fun z => qfr wf_X10_fewestSteps_b58 h ((Sum.elim (fun z : Int32 × Int32 × qa_M => z.2.2) (fun z : Int32 × qa_M => z.2)) z)) E (fun rz E => ?_)
    exact qfr_tr e_h (qfr_sub qsub_nil (fr_X10_fewestSteps_b100 x4 h E))
  · obtain ⟨v66, -, E⟩ := qbd_el E
    exact qfr_tr e_h (qfr_sub (qsub_c (List.mem_of_getElem? (i := 0) rfl) qsub_nil) (fr_X10_fewestSteps_b68_loop x4 x5 v66 h E))
theorem fr_X10_fewestSteps_b58_loop (x4 : Int32) (x5 : Int32) (h : qa_M) {z : (Int32 × qa_M)} (E : f_X10_fewestSteps_b58_loop x4 x5 h = some z) : qfr wf_X10_fewestSteps_b58 h ((fun z : Int32 × qa_M => z.2) z) :=
  qlp_ind (fun sz : Int32 × Int32 × qa_M => qfr wf_X10_fewestSteps_b58 (sz.2.2) ((fun z : Int32 × qa_M => z.2) z)) (fun sz E => fr_X10_fewestSteps_b58 sz.1 sz.2.1 sz.2.2 E) (fun sz sz2 E ih => qfr_tr (fr_X10_fewestSteps_b58 sz.1 sz.2.1 sz.2.2 E) ih) (x4, x5, h) E
def wf_X10_fewestSteps_b32 : List (Nat × Nat) := [(50, 0)]
theorem fr_X10_fewestSteps_b32 (x2 : Int32) (x4 : Int32) (h : qa_M) {z : (Int32 × qa_M)} (E : f_X10_fewestSteps_b32 x2 x4 h = some z) : qfr wf_X10_fewestSteps_b32 h ((fun z : Int32 × qa_M => z.2) z) := by
  unfold f_X10_fewestSteps_b32 at E
  have e_h : qfr wf_X10_fewestSteps_b32 h h := qfr_rf
  obtain ⟨h38, E0, E⟩ := qbv_el E
  have e_h38 := qfr_tr e_h (qfr_sub (qsub_c (List.mem_of_getElem? (i := 0) rfl) qsub_nil) (fr_J7_fill_53178 50 (1000000 : Int32) h E0))
  obtain ⟨-, E⟩ := qck_el E
  obtain ⟨h54, q_h54, E⟩ := qbd_el E
  have e_h54 := qfr_I0 q_h54 (List.mem_of_getElem? (i := 0) rfl) e_h38
  obtain ⟨v56, -, E⟩ := qbd_el E
  exact qfr_tr e_h54 (qfr_sub (qsub_c (List.mem_of_getElem? (i := 0) rfl) qsub_nil) (fr_X10_fewestSteps_b58_loop x4 v56 h54 E))
def wf_X10_fewestSteps_b10 : List (Nat × Nat) := [(49, 0), (50, 0)]
theorem fr_X10_fewestSteps_b10 (x2 : Int32) (x4 : Int32) (x5 : Int32) (h : qa_M) {z : ((Int32 × Int32 × Int32 × qa_M) ⊕ (Int32 × qa_M))} (E : f_X10_fewestSteps_b10 x2 x4 x5 h = some z) : qfr wf_X10_fewestSteps_b10 h ((Sum.elim (fun z : Int32 × Int32 × Int32 × qa_M => z.2.2.2) (fun z : Int32 × qa_M => z.2)) z) := by
  unfold f_X10_fewestSteps_b10 at E
  have e_h : qfr wf_X10_fewestSteps_b10 h h := qfr_rf
  rcases qif_el E with E | E
  · refine qup_f (Q := fun z => qfr wf_X10_fewestSteps_b10 h ((Sum.elim (fun z : Int32 × Int32 × Int32 × qa_M => z.2.2.2) (fun z : Int32 × qa_M => z.2)) z)) E (fun rz E => ?_)
    exact qfr_tr e_h (qfr_sub (qsub_c (List.mem_of_getElem? (i := 1) rfl) qsub_nil) (fr_X10_fewestSteps_b32 x2 x4 h E))
  · obtain ⟨h23, E0, E⟩ := qbv_el E
    have e_h23 := qfr_tr e_h (qfr_sub (qsub_c (List.mem_of_getElem? (i := 0) rfl) qsub_nil) (fr_X10_spread x5 h E0))
    obtain ⟨v26, -, E⟩ := qbd_el E
    exact qsome_f (Q := fun z => qfr wf_X10_fewestSteps_b10 h ((Sum.elim (fun z : Int32 × Int32 × Int32 × qa_M => z.2.2.2) (fun z : Int32 × qa_M => z.2)) z)) E e_h23
theorem fr_X10_fewestSteps_b10_loop (x2 : Int32) (x4 : Int32) (x5 : Int32) (h : qa_M) {z : (Int32 × qa_M)} (E : f_X10_fewestSteps_b10_loop x2 x4 x5 h = some z) : qfr wf_X10_fewestSteps_b10 h ((fun z : Int32 × qa_M => z.2) z) :=
  qlp_ind (fun sz : Int32 × Int32 × Int32 × qa_M => qfr wf_X10_fewestSteps_b10 (sz.2.2.2) ((fun z : Int32 × qa_M => z.2) z)) (fun sz E => fr_X10_fewestSteps_b10 sz.1 sz.2.1 sz.2.2.1 sz.2.2.2 E) (fun sz sz2 E ih => qfr_tr (fr_X10_fewestSteps_b10 sz.1 sz.2.1 sz.2.2.1 sz.2.2.2 E) ih) (x2, x4, x5, h) E
def w_X10_fewestSteps : List (Nat × Nat) := [(49, 0), (50, 0)]
theorem fr_X10_fewestSteps (x2 : Int32) (x3 : Int32) (h : qa_M) {z : (Int32 × qa_M)} (E : m_X10_fewestSteps x2 x3 h = some z) : qfr w_X10_fewestSteps h ((fun z : Int32 × qa_M => z.2) z) := by
  unfold m_X10_fewestSteps at E
  have e_h : qfr w_X10_fewestSteps h h := qfr_rf
  obtain ⟨v5, -, E⟩ := qbd_el E
  obtain ⟨v8, -, E⟩ := qbd_el E
  exact qfr_tr e_h (qfr_sub (qsub_c (List.mem_of_getElem? (i := 0) rfl) (qsub_c (List.mem_of_getElem? (i := 1) rfl) qsub_nil)) (fr_X10_fewestSteps_b10_loop x2 v5 v8 h E))
def w_X11_walk : List (Nat × Nat) := [(49, 0), (50, 0)]
theorem fr_X11_walk (x1 : Int32) (x2 : Int32) (h : qa_M) {z : (Int32 × qa_M)} (E : m_X11_walk x1 x2 h = some z) : qfr w_X11_walk h ((fun z : Int32 × qa_M => z.2) z) := by
  unfold m_X11_walk at E
  have e_h : qfr w_X11_walk h h := qfr_rf
  obtain ⟨c13, h13, E0, E⟩ := qbn_el E
  have e_h13 := qfr_tr e_h (qfr_sub qsub_nil (fr_X11_within x1 (h.1 4 2) h E0))
  rcases qif_el E with E | E
  · exact qsome_f (Q := fun z => qfr w_X11_walk h ((fun z : Int32 × qa_M => z.2) z)) E e_h13
  · obtain ⟨c26, h26, E0, E⟩ := qbn_el E
    have e_h26 := qfr_tr e_h13 (qfr_sub qsub_nil (fr_X11_within x2 ((1 : Int32) <<< ((h13.1 4 2) &&& 31)) h13 E0))
    rcases qif_el E with E | E
    · exact qsome_f (Q := fun z => qfr w_X11_walk h ((fun z : Int32 × qa_M => z.2) z)) E e_h26
    · obtain ⟨c41, h41, E0, E⟩ := qbn_el E
      have e_h41 := qfr_tr e_h26 (qfr_sub (qsub_c (List.mem_of_getElem? (i := 0) rfl) (qsub_c (List.mem_of_getElem? (i := 1) rfl) qsub_nil)) (fr_X10_fewestSteps x1 x2 h26 E0))
      exact qsome_f (Q := fun z => qfr w_X11_walk h ((fun z : Int32 × qa_M => z.2) z)) E e_h41
def w_X11_seed : List (Nat × Nat) := [(3, 5)]
theorem fr_X11_seed (x1 : Int32) (h : qa_M) {z : (Int32 × qa_M)} (E : m_X11_seed x1 h = some z) : qfr w_X11_seed h ((fun z : Int32 × qa_M => z.2) z) := by
  unfold m_X11_seed at E
  have e_h : qfr w_X11_seed h h := qfr_rf
  rcases qif_el E with E | E
  · obtain ⟨v13, -, E⟩ := qbd_el E
    obtain ⟨h19, q_h19, E⟩ := qbd_el E
    have e_h19 := qfr_Ik q_h19 (List.mem_of_getElem? (i := 0) rfl) e_h
    exact qsome_f (Q := fun z => qfr w_X11_seed h ((fun z : Int32 × qa_M => z.2) z)) E e_h19
  · exact qsome_f (Q := fun z => qfr w_X11_seed h ((fun z : Int32 × qa_M => z.2) z)) E e_h
def w_X8_draw : List (Nat × Nat) := [(3, 5)]
theorem fr_X8_draw (h : qa_M) {z : (Int32 × qa_M)} (E : m_X8_draw h = some z) : qfr w_X8_draw h ((fun z : Int32 × qa_M => z.2) z) := by
  unfold m_X8_draw at E
  have e_h : qfr w_X8_draw h h := qfr_rf
  obtain ⟨h19, q_h19, E⟩ := qbd_el E
  have e_h19 := qfr_Ik q_h19 (List.mem_of_getElem? (i := 0) rfl) e_h
  exact qsome_f (Q := fun z => qfr w_X8_draw h ((fun z : Int32 × qa_M => z.2) z)) E e_h19
def w_X11_drawn : List (Nat × Nat) := [(0, 15), (3, 5), (22, 5), (22, 8), (22, 9), (22, 13), (22, 16), (24, 0), (25, 0), (26, 0), (27, 0), (28, 0), (29, 0), (30, 0), (31, 0), (32, 0), (88, 0), (90, 0), (91, 0), (97, 0), (99, 0), (100, 0), (106, 0), (108, 0), (109, 0), (115, 0), (117, 0), (118, 0)]
theorem fr_X11_drawn (x1 : Int32) (h : qa_M) {z : (Int32 × qa_M)} (E : m_X11_drawn x1 h = some z) : qfr w_X11_drawn h ((fun z : Int32 × qa_M => z.2) z) := by
  unfold m_X11_drawn at E
  have e_h : qfr w_X11_drawn h h := qfr_rf
  obtain ⟨c2, h2, E0, E⟩ := qbn_el E
  have e_h2 := qfr_tr e_h (qfr_sub qsub_nil (fr_X11_known x1 h E0))
  rcases qif_el E with E | E
  · exact qsome_f (Q := fun z => qfr w_X11_drawn h ((fun z : Int32 × qa_M => z.2) z)) E e_h2
  · obtain ⟨c12, h12, E0, E⟩ := qbn_el E
    have e_h12 := qfr_tr e_h2 (qfr_sub (qsub_c (List.mem_of_getElem? (i := 0) rfl) (qsub_c (List.mem_of_getElem? (i := 2) rfl) (qsub_c (List.mem_of_getElem? (i := 3) rfl) (qsub_c (List.mem_of_getElem? (i := 4) rfl) (qsub_c (List.mem_of_getElem? (i := 5) rfl) (qsub_c (List.mem_of_getElem? (i := 6) rfl) (qsub_c (List.mem_of_getElem? (i := 7) rfl) (qsub_c (List.mem_of_getElem? (i := 8) rfl) (qsub_c (List.mem_of_getElem? (i := 9) rfl) (qsub_c (List.mem_of_getElem? (i := 10) rfl) (qsub_c (List.mem_of_getElem? (i := 11) rfl) (qsub_c (List.mem_of_getElem? (i := 12) rfl) (qsub_c (List.mem_of_getElem? (i := 13) rfl) (qsub_c (List.mem_of_getElem? (i := 14) rfl) (qsub_c (List.mem_of_getElem? (i := 15) rfl) (qsub_c (List.mem_of_getElem? (i := 16) rfl) (qsub_c (List.mem_of_getElem? (i := 17) rfl) (qsub_c (List.mem_of_getElem? (i := 18) rfl) (qsub_c (List.mem_of_getElem? (i := 19) rfl) (qsub_c (List.mem_of_getElem? (i := 20) rfl) (qsub_c (List.mem_of_getElem? (i := 21) rfl) (qsub_c (List.mem_of_getElem? (i := 22) rfl) (qsub_c (List.mem_of_getElem? (i := 23) rfl) (qsub_c (List.mem_of_getElem? (i := 24) rfl) (qsub_c (List.mem_of_getElem? (i := 25) rfl) (qsub_c (List.mem_of_getElem? (i := 26) rfl) (qsub_c (List.mem_of_getElem? (i := 27) rfl) qsub_nil))))))))))))))))))))))))))) (fr_X11_howMany x1 h2 E0))
    obtain ⟨v15, -, E⟩ := qbd_el E
    rcases qif_el E with E | E
    · exact qsome_f (Q := fun z => qfr w_X11_drawn h ((fun z : Int32 × qa_M => z.2) z)) E e_h12
    · obtain ⟨c29, h29, E0, E⟩ := qbn_el E
      have e_h29 := qfr_tr e_h12 (qfr_sub (qsub_c (List.mem_of_getElem? (i := 1) rfl) qsub_nil) (fr_X8_draw h12 E0))
      obtain ⟨-, E⟩ := qnz_el E
      exact qsome_f (Q := fun z => qfr w_X11_drawn h ((fun z : Int32 × qa_M => z.2) z)) E e_h29
theorem fr_X11_count (x1 : Int32) (h : qa_M) {z : (Int32 × qa_M)} (E : m_X11_count x1 h = some z) : qfr wz h ((fun z : Int32 × qa_M => z.2) z) := by
  unfold m_X11_count at E
  have e_h : qfr wz h h := qfr_rf
  rcases qif_el E with E | E
  · exact qsome_f (Q := fun z => qfr wz h ((fun z : Int32 × qa_M => z.2) z)) E e_h
  · rcases qif_el E with E | E
    · exact qsome_f (Q := fun z => qfr wz h ((fun z : Int32 × qa_M => z.2) z)) E e_h
    · rcases qif_el E with E | E
      · exact qsome_f (Q := fun z => qfr wz h ((fun z : Int32 × qa_M => z.2) z)) E e_h
      · rcases qif_el E with E | E
        · exact qsome_f (Q := fun z => qfr wz h ((fun z : Int32 × qa_M => z.2) z)) E e_h
        · rcases qif_el E with E | E
          · exact qsome_f (Q := fun z => qfr wz h ((fun z : Int32 × qa_M => z.2) z)) E e_h
          · rcases qif_el E with E | E
            · exact qsome_f (Q := fun z => qfr wz h ((fun z : Int32 × qa_M => z.2) z)) E e_h
            · rcases qif_el E with E | E
              · exact qsome_f (Q := fun z => qfr wz h ((fun z : Int32 × qa_M => z.2) z)) E e_h
              · rcases qif_el E with E | E
                · exact qsome_f (Q := fun z => qfr wz h ((fun z : Int32 × qa_M => z.2) z)) E e_h
                · rcases qif_el E with E | E
                  · exact qsome_f (Q := fun z => qfr wz h ((fun z : Int32 × qa_M => z.2) z)) E e_h
                  · rcases qif_el E with E | E
                    · exact qsome_f (Q := fun z => qfr wz h ((fun z : Int32 × qa_M => z.2) z)) E e_h
                    · rcases qif_el E with E | E
                      · exact qsome_f (Q := fun z => qfr wz h ((fun z : Int32 × qa_M => z.2) z)) E e_h
                      · exact qsome_f (Q := fun z => qfr wz h ((fun z : Int32 × qa_M => z.2) z)) E e_h
def w_X8_copy (a0 : Nat) : List (Nat × Nat) := [((a0 + 1), 1), ((a0 + 1), 2), ((a0 + 1), 3), ((a0 + 1), 4), ((a0 + 1), 5), ((a0 + 1), 6), ((a0 + 1), 7), ((a0 + 1), 8), ((a0 + 2), 0), ((a0 + 3), 0), ((a0 + 4), 0), ((a0 + 5), 0), ((a0 + 6), 0), ((a0 + 7), 0), (a0, 2), (a0, 4), (a0, 5)]
theorem fr_X8_copy (a0 : Nat) (a1 : Nat) (h : qa_M) {z : qa_M} (E : m_X8_copy a0 a1 h = some z) : qfr (w_X8_copy a0) h ((fun z : qa_M => z) z) := by
  unfold m_X8_copy at E
  have e_h : qfr (w_X8_copy a0) h h := qfr_rf
  obtain ⟨h8, E0, E⟩ := qbv_el E
  have e_h8 := qfr_tr e_h (qfr_sub (qsub_c (List.mem_of_getElem? (i := 8) rfl) (qsub_c (List.mem_of_getElem? (i := 9) rfl) (qsub_c (List.mem_of_getElem? (i := 10) rfl) (qsub_c (List.mem_of_getElem? (i := 11) rfl) (qsub_c (List.mem_of_getElem? (i := 12) rfl) (qsub_c (List.mem_of_getElem? (i := 0) rfl) (qsub_c (List.mem_of_getElem? (i := 1) rfl) (qsub_c (List.mem_of_getElem? (i := 2) rfl) (qsub_c (List.mem_of_getElem? (i := 3) rfl) (qsub_c (List.mem_of_getElem? (i := 4) rfl) (qsub_c (List.mem_of_getElem? (i := 5) rfl) (qsub_c (List.mem_of_getElem? (i := 6) rfl) (qsub_c (List.mem_of_getElem? (i := 7) rfl) qsub_nil))))))))))))) (fr_X3_copy (a0 + 1) (a1 + 1) h E0))
  obtain ⟨h16, q_h16, E⟩ := qbd_el E
  have e_h16 := qfr_Ik q_h16 (List.mem_of_getElem? (i := 14) rfl) e_h8
  obtain ⟨h34, q_h34, E⟩ := qbd_el E
  have e_h34 := qfr_cI q_h34 (List.mem_of_getElem? (i := 13) rfl) e_h16
  obtain ⟨h42, q_h42, E⟩ := qbd_el E
  have e_h42 := qfr_Ik q_h42 (List.mem_of_getElem? (i := 15) rfl) e_h34
  obtain ⟨h50, q_h50, E⟩ := qbd_el E
  have e_h50 := qfr_Ik q_h50 (List.mem_of_getElem? (i := 16) rfl) e_h42
  exact qsome_f (Q := fun z => qfr (w_X8_copy a0) h ((fun z : qa_M => z) z)) E e_h50
def w_X11_image : List (Nat × Nat) := [(3, 2), (3, 4), (3, 5), (4, 1), (4, 2), (4, 3), (4, 4), (4, 5), (4, 6), (4, 7), (4, 8), (5, 0), (6, 0), (7, 0), (8, 0), (9, 0), (10, 0), (12, 0), (51, 2), (51, 4), (51, 5), (52, 1), (52, 2), (52, 3), (52, 4), (52, 5), (52, 6), (52, 7), (52, 8), (53, 0), (54, 0), (55, 0), (56, 0), (57, 0), (58, 0), (59, 2), (59, 4), (59, 5), (60, 1), (60, 2), (60, 3), (60, 4), (60, 5), (60, 6), (60, 7), (60, 8), (61, 0), (62, 0), (63, 0), (64, 0), (65, 0), (66, 0), (67, 2), (67, 4), (67, 5), (68, 1), (68, 2), (68, 3), (68, 4), (68, 5), (68, 6), (68, 7), (68, 8), (69, 0), (70, 0), (71, 0), (72, 0), (73, 0), (74, 0), (75, 2), (75, 4), (75, 5), (76, 1), (76, 2), (76, 3), (76, 4), (76, 5), (76, 6), (76, 7), (76, 8), (77, 0), (78, 0), (79, 0), (80, 0), (81, 0), (82, 0)]
theorem fr_X11_image (x1 : Int32) (h : qa_M) {z : (Int32 × qa_M)} (E : m_X11_image x1 h = some z) : qfr w_X11_image h ((fun z : Int32 × qa_M => z.2) z) := by
  unfold m_X11_image at E
  have e_h : qfr w_X11_image h h := qfr_rf
  obtain ⟨c2, h2, E0, E⟩ := qbn_el E
  have e_h2 := qfr_tr e_h (qfr_sub qsub_nil (fr_X11_within x1 (4 : Int32) h E0))
  rcases qif_el E with E | E
  · exact qsome_f (Q := fun z => qfr w_X11_image h ((fun z : Int32 × qa_M => z.2) z)) E e_h2
  · obtain ⟨-, E⟩ := qck_el E
    obtain ⟨a15, -, E⟩ := qnn_el E
    obtain ⟨pz, E⟩ := qpr_el E
    rcases pz with rfl | rfl | rfl | rfl | rfl
    · obtain ⟨h20, E0, E⟩ := qbv_el E
      have e_h20 := qfr_tr e_h2 (qfr_sub (qsub_c (List.mem_of_getElem? (i := 3) rfl) (qsub_c (List.mem_of_getElem? (i := 4) rfl) (qsub_c (List.mem_of_getElem? (i := 5) rfl) (qsub_c (List.mem_of_getElem? (i := 6) rfl) (qsub_c (List.mem_of_getElem? (i := 7) rfl) (qsub_c (List.mem_of_getElem? (i := 8) rfl) (qsub_c (List.mem_of_getElem? (i := 9) rfl) (qsub_c (List.mem_of_getElem? (i := 10) rfl) (qsub_c (List.mem_of_getElem? (i := 11) rfl) (qsub_c (List.mem_of_getElem? (i := 12) rfl) (qsub_c (List.mem_of_getElem? (i := 13) rfl) (qsub_c (List.mem_of_getElem? (i := 14) rfl) (qsub_c (List.mem_of_getElem? (i := 15) rfl) (qsub_c (List.mem_of_getElem? (i := 16) rfl) (qsub_c (List.mem_of_getElem? (i := 0) rfl) (qsub_c (List.mem_of_getElem? (i := 1) rfl) (qsub_c (List.mem_of_getElem? (i := 2) rfl) qsub_nil))))))))))))))))) (fr_X8_copy 3 3 h2 E0))
      obtain ⟨-, E⟩ := qck_el E
      obtain ⟨h29, q_h29, E⟩ := qbd_el E
      have e_h29 := qfr_I0 q_h29 (List.mem_of_getElem? (i := 17) rfl) e_h20
      exact qsome_f (Q := fun z => qfr w_X11_image h ((fun z : Int32 × qa_M => z.2) z)) E e_h29
    · obtain ⟨h20, E0, E⟩ := qbv_el E
      have e_h20 := qfr_tr e_h2 (qfr_sub (qsub_c (List.mem_of_getElem? (i := 21) rfl) (qsub_c (List.mem_of_getElem? (i := 22) rfl) (qsub_c (List.mem_of_getElem? (i := 23) rfl) (qsub_c (List.mem_of_getElem? (i := 24) rfl) (qsub_c (List.mem_of_getElem? (i := 25) rfl) (qsub_c (List.mem_of_getElem? (i := 26) rfl) (qsub_c (List.mem_of_getElem? (i := 27) rfl) (qsub_c (List.mem_of_getElem? (i := 28) rfl) (qsub_c (List.mem_of_getElem? (i := 29) rfl) (qsub_c (List.mem_of_getElem? (i := 30) rfl) (qsub_c (List.mem_of_getElem? (i := 31) rfl) (qsub_c (List.mem_of_getElem? (i := 32) rfl) (qsub_c (List.mem_of_getElem? (i := 33) rfl) (qsub_c (List.mem_of_getElem? (i := 34) rfl) (qsub_c (List.mem_of_getElem? (i := 18) rfl) (qsub_c (List.mem_of_getElem? (i := 19) rfl) (qsub_c (List.mem_of_getElem? (i := 20) rfl) qsub_nil))))))))))))))))) (fr_X8_copy 51 3 h2 E0))
      obtain ⟨-, E⟩ := qck_el E
      obtain ⟨h29, q_h29, E⟩ := qbd_el E
      have e_h29 := qfr_I0 q_h29 (List.mem_of_getElem? (i := 17) rfl) e_h20
      exact qsome_f (Q := fun z => qfr w_X11_image h ((fun z : Int32 × qa_M => z.2) z)) E e_h29
    · obtain ⟨h20, E0, E⟩ := qbv_el E
      have e_h20 := qfr_tr e_h2 (qfr_sub (qsub_c (List.mem_of_getElem? (i := 38) rfl) (qsub_c (List.mem_of_getElem? (i := 39) rfl) (qsub_c (List.mem_of_getElem? (i := 40) rfl) (qsub_c (List.mem_of_getElem? (i := 41) rfl) (qsub_c (List.mem_of_getElem? (i := 42) rfl) (qsub_c (List.mem_of_getElem? (i := 43) rfl) (qsub_c (List.mem_of_getElem? (i := 44) rfl) (qsub_c (List.mem_of_getElem? (i := 45) rfl) (qsub_c (List.mem_of_getElem? (i := 46) rfl) (qsub_c (List.mem_of_getElem? (i := 47) rfl) (qsub_c (List.mem_of_getElem? (i := 48) rfl) (qsub_c (List.mem_of_getElem? (i := 49) rfl) (qsub_c (List.mem_of_getElem? (i := 50) rfl) (qsub_c (List.mem_of_getElem? (i := 51) rfl) (qsub_c (List.mem_of_getElem? (i := 35) rfl) (qsub_c (List.mem_of_getElem? (i := 36) rfl) (qsub_c (List.mem_of_getElem? (i := 37) rfl) qsub_nil))))))))))))))))) (fr_X8_copy 59 3 h2 E0))
      obtain ⟨-, E⟩ := qck_el E
      obtain ⟨h29, q_h29, E⟩ := qbd_el E
      have e_h29 := qfr_I0 q_h29 (List.mem_of_getElem? (i := 17) rfl) e_h20
      exact qsome_f (Q := fun z => qfr w_X11_image h ((fun z : Int32 × qa_M => z.2) z)) E e_h29
    · obtain ⟨h20, E0, E⟩ := qbv_el E
      have e_h20 := qfr_tr e_h2 (qfr_sub (qsub_c (List.mem_of_getElem? (i := 55) rfl) (qsub_c (List.mem_of_getElem? (i := 56) rfl) (qsub_c (List.mem_of_getElem? (i := 57) rfl) (qsub_c (List.mem_of_getElem? (i := 58) rfl) (qsub_c (List.mem_of_getElem? (i := 59) rfl) (qsub_c (List.mem_of_getElem? (i := 60) rfl) (qsub_c (List.mem_of_getElem? (i := 61) rfl) (qsub_c (List.mem_of_getElem? (i := 62) rfl) (qsub_c (List.mem_of_getElem? (i := 63) rfl) (qsub_c (List.mem_of_getElem? (i := 64) rfl) (qsub_c (List.mem_of_getElem? (i := 65) rfl) (qsub_c (List.mem_of_getElem? (i := 66) rfl) (qsub_c (List.mem_of_getElem? (i := 67) rfl) (qsub_c (List.mem_of_getElem? (i := 68) rfl) (qsub_c (List.mem_of_getElem? (i := 52) rfl) (qsub_c (List.mem_of_getElem? (i := 53) rfl) (qsub_c (List.mem_of_getElem? (i := 54) rfl) qsub_nil))))))))))))))))) (fr_X8_copy 67 3 h2 E0))
      obtain ⟨-, E⟩ := qck_el E
      obtain ⟨h29, q_h29, E⟩ := qbd_el E
      have e_h29 := qfr_I0 q_h29 (List.mem_of_getElem? (i := 17) rfl) e_h20
      exact qsome_f (Q := fun z => qfr w_X11_image h ((fun z : Int32 × qa_M => z.2) z)) E e_h29
    · obtain ⟨h20, E0, E⟩ := qbv_el E
      have e_h20 := qfr_tr e_h2 (qfr_sub (qsub_c (List.mem_of_getElem? (i := 72) rfl) (qsub_c (List.mem_of_getElem? (i := 73) rfl) (qsub_c (List.mem_of_getElem? (i := 74) rfl) (qsub_c (List.mem_of_getElem? (i := 75) rfl) (qsub_c (List.mem_of_getElem? (i := 76) rfl) (qsub_c (List.mem_of_getElem? (i := 77) rfl) (qsub_c (List.mem_of_getElem? (i := 78) rfl) (qsub_c (List.mem_of_getElem? (i := 79) rfl) (qsub_c (List.mem_of_getElem? (i := 80) rfl) (qsub_c (List.mem_of_getElem? (i := 81) rfl) (qsub_c (List.mem_of_getElem? (i := 82) rfl) (qsub_c (List.mem_of_getElem? (i := 83) rfl) (qsub_c (List.mem_of_getElem? (i := 84) rfl) (qsub_c (List.mem_of_getElem? (i := 85) rfl) (qsub_c (List.mem_of_getElem? (i := 69) rfl) (qsub_c (List.mem_of_getElem? (i := 70) rfl) (qsub_c (List.mem_of_getElem? (i := 71) rfl) qsub_nil))))))))))))))))) (fr_X8_copy 75 3 h2 E0))
      obtain ⟨-, E⟩ := qck_el E
      obtain ⟨h29, q_h29, E⟩ := qbd_el E
      have e_h29 := qfr_I0 q_h29 (List.mem_of_getElem? (i := 17) rfl) e_h20
      exact qsome_f (Q := fun z => qfr w_X11_image h ((fun z : Int32 × qa_M => z.2) z)) E e_h29
def w_X11_back : List (Nat × Nat) := [(0, 14), (3, 2), (3, 4), (3, 5), (4, 1), (4, 2), (4, 3), (4, 4), (4, 5), (4, 6), (4, 7), (4, 8), (5, 0), (6, 0), (7, 0), (8, 0), (9, 0), (10, 0)]
theorem fr_X11_back (x1 : Int32) (h : qa_M) {z : (Int32 × qa_M)} (E : m_X11_back x1 h = some z) : qfr w_X11_back h ((fun z : Int32 × qa_M => z.2) z) := by
  unfold m_X11_back at E
  have e_h : qfr w_X11_back h h := qfr_rf
  obtain ⟨c2, h2, E0, E⟩ := qbn_el E
  have e_h2 := qfr_tr e_h (qfr_sub qsub_nil (fr_X11_within x1 (4 : Int32) h E0))
  rcases qif_el E with E | E
  · exact qsome_f (Q := fun z => qfr w_X11_back h ((fun z : Int32 × qa_M => z.2) z)) E e_h2
  · obtain ⟨-, E⟩ := qck_el E
    rcases qif_el E with E | E
    · exact qsome_f (Q := fun z => qfr w_X11_back h ((fun z : Int32 × qa_M => z.2) z)) E e_h2
    · obtain ⟨-, E⟩ := qck_el E
      obtain ⟨a28, -, E⟩ := qnn_el E
      obtain ⟨pz, E⟩ := qpr_el E
      rcases pz with rfl | rfl | rfl | rfl | rfl
      · obtain ⟨h29, E0, E⟩ := qbv_el E
        have e_h29 := qfr_tr e_h2 (qfr_sub (qsub_c (List.mem_of_getElem? (i := 4) rfl) (qsub_c (List.mem_of_getElem? (i := 5) rfl) (qsub_c (List.mem_of_getElem? (i := 6) rfl) (qsub_c (List.mem_of_getElem? (i := 7) rfl) (qsub_c (List.mem_of_getElem? (i := 8) rfl) (qsub_c (List.mem_of_getElem? (i := 9) rfl) (qsub_c (List.mem_of_getElem? (i := 10) rfl) (qsub_c (List.mem_of_getElem? (i := 11) rfl) (qsub_c (List.mem_of_getElem? (i := 12) rfl) (qsub_c (List.mem_of_getElem? (i := 13) rfl) (qsub_c (List.mem_of_getElem? (i := 14) rfl) (qsub_c (List.mem_of_getElem? (i := 15) rfl) (qsub_c (List.mem_of_getElem? (i := 16) rfl) (qsub_c (List.mem_of_getElem? (i := 17) rfl) (qsub_c (List.mem_of_getElem? (i := 1) rfl) (qsub_c (List.mem_of_getElem? (i := 2) rfl) (qsub_c (List.mem_of_getElem? (i := 3) rfl) qsub_nil))))))))))))))))) (fr_X8_copy 3 3 h2 E0))
        obtain ⟨h39, q_h39, E⟩ := qbd_el E
        have e_h39 := qfr_Ik q_h39 (List.mem_of_getElem? (i := 0) rfl) e_h29
        exact qsome_f (Q := fun z => qfr w_X11_back h ((fun z : Int32 × qa_M => z.2) z)) E e_h39
      · obtain ⟨h29, E0, E⟩ := qbv_el E
        have e_h29 := qfr_tr e_h2 (qfr_sub (qsub_c (List.mem_of_getElem? (i := 4) rfl) (qsub_c (List.mem_of_getElem? (i := 5) rfl) (qsub_c (List.mem_of_getElem? (i := 6) rfl) (qsub_c (List.mem_of_getElem? (i := 7) rfl) (qsub_c (List.mem_of_getElem? (i := 8) rfl) (qsub_c (List.mem_of_getElem? (i := 9) rfl) (qsub_c (List.mem_of_getElem? (i := 10) rfl) (qsub_c (List.mem_of_getElem? (i := 11) rfl) (qsub_c (List.mem_of_getElem? (i := 12) rfl) (qsub_c (List.mem_of_getElem? (i := 13) rfl) (qsub_c (List.mem_of_getElem? (i := 14) rfl) (qsub_c (List.mem_of_getElem? (i := 15) rfl) (qsub_c (List.mem_of_getElem? (i := 16) rfl) (qsub_c (List.mem_of_getElem? (i := 17) rfl) (qsub_c (List.mem_of_getElem? (i := 1) rfl) (qsub_c (List.mem_of_getElem? (i := 2) rfl) (qsub_c (List.mem_of_getElem? (i := 3) rfl) qsub_nil))))))))))))))))) (fr_X8_copy 3 51 h2 E0))
        obtain ⟨h39, q_h39, E⟩ := qbd_el E
        have e_h39 := qfr_Ik q_h39 (List.mem_of_getElem? (i := 0) rfl) e_h29
        exact qsome_f (Q := fun z => qfr w_X11_back h ((fun z : Int32 × qa_M => z.2) z)) E e_h39
      · obtain ⟨h29, E0, E⟩ := qbv_el E
        have e_h29 := qfr_tr e_h2 (qfr_sub (qsub_c (List.mem_of_getElem? (i := 4) rfl) (qsub_c (List.mem_of_getElem? (i := 5) rfl) (qsub_c (List.mem_of_getElem? (i := 6) rfl) (qsub_c (List.mem_of_getElem? (i := 7) rfl) (qsub_c (List.mem_of_getElem? (i := 8) rfl) (qsub_c (List.mem_of_getElem? (i := 9) rfl) (qsub_c (List.mem_of_getElem? (i := 10) rfl) (qsub_c (List.mem_of_getElem? (i := 11) rfl) (qsub_c (List.mem_of_getElem? (i := 12) rfl) (qsub_c (List.mem_of_getElem? (i := 13) rfl) (qsub_c (List.mem_of_getElem? (i := 14) rfl) (qsub_c (List.mem_of_getElem? (i := 15) rfl) (qsub_c (List.mem_of_getElem? (i := 16) rfl) (qsub_c (List.mem_of_getElem? (i := 17) rfl) (qsub_c (List.mem_of_getElem? (i := 1) rfl) (qsub_c (List.mem_of_getElem? (i := 2) rfl) (qsub_c (List.mem_of_getElem? (i := 3) rfl) qsub_nil))))))))))))))))) (fr_X8_copy 3 59 h2 E0))
        obtain ⟨h39, q_h39, E⟩ := qbd_el E
        have e_h39 := qfr_Ik q_h39 (List.mem_of_getElem? (i := 0) rfl) e_h29
        exact qsome_f (Q := fun z => qfr w_X11_back h ((fun z : Int32 × qa_M => z.2) z)) E e_h39
      · obtain ⟨h29, E0, E⟩ := qbv_el E
        have e_h29 := qfr_tr e_h2 (qfr_sub (qsub_c (List.mem_of_getElem? (i := 4) rfl) (qsub_c (List.mem_of_getElem? (i := 5) rfl) (qsub_c (List.mem_of_getElem? (i := 6) rfl) (qsub_c (List.mem_of_getElem? (i := 7) rfl) (qsub_c (List.mem_of_getElem? (i := 8) rfl) (qsub_c (List.mem_of_getElem? (i := 9) rfl) (qsub_c (List.mem_of_getElem? (i := 10) rfl) (qsub_c (List.mem_of_getElem? (i := 11) rfl) (qsub_c (List.mem_of_getElem? (i := 12) rfl) (qsub_c (List.mem_of_getElem? (i := 13) rfl) (qsub_c (List.mem_of_getElem? (i := 14) rfl) (qsub_c (List.mem_of_getElem? (i := 15) rfl) (qsub_c (List.mem_of_getElem? (i := 16) rfl) (qsub_c (List.mem_of_getElem? (i := 17) rfl) (qsub_c (List.mem_of_getElem? (i := 1) rfl) (qsub_c (List.mem_of_getElem? (i := 2) rfl) (qsub_c (List.mem_of_getElem? (i := 3) rfl) qsub_nil))))))))))))))))) (fr_X8_copy 3 67 h2 E0))
        obtain ⟨h39, q_h39, E⟩ := qbd_el E
        have e_h39 := qfr_Ik q_h39 (List.mem_of_getElem? (i := 0) rfl) e_h29
        exact qsome_f (Q := fun z => qfr w_X11_back h ((fun z : Int32 × qa_M => z.2) z)) E e_h39
      · obtain ⟨h29, E0, E⟩ := qbv_el E
        have e_h29 := qfr_tr e_h2 (qfr_sub (qsub_c (List.mem_of_getElem? (i := 4) rfl) (qsub_c (List.mem_of_getElem? (i := 5) rfl) (qsub_c (List.mem_of_getElem? (i := 6) rfl) (qsub_c (List.mem_of_getElem? (i := 7) rfl) (qsub_c (List.mem_of_getElem? (i := 8) rfl) (qsub_c (List.mem_of_getElem? (i := 9) rfl) (qsub_c (List.mem_of_getElem? (i := 10) rfl) (qsub_c (List.mem_of_getElem? (i := 11) rfl) (qsub_c (List.mem_of_getElem? (i := 12) rfl) (qsub_c (List.mem_of_getElem? (i := 13) rfl) (qsub_c (List.mem_of_getElem? (i := 14) rfl) (qsub_c (List.mem_of_getElem? (i := 15) rfl) (qsub_c (List.mem_of_getElem? (i := 16) rfl) (qsub_c (List.mem_of_getElem? (i := 17) rfl) (qsub_c (List.mem_of_getElem? (i := 1) rfl) (qsub_c (List.mem_of_getElem? (i := 2) rfl) (qsub_c (List.mem_of_getElem? (i := 3) rfl) qsub_nil))))))))))))))))) (fr_X8_copy 3 75 h2 E0))
        obtain ⟨h39, q_h39, E⟩ := qbd_el E
        have e_h39 := qfr_Ik q_h39 (List.mem_of_getElem? (i := 0) rfl) e_h29
        exact qsome_f (Q := fun z => qfr w_X11_back h ((fun z : Int32 × qa_M => z.2) z)) E e_h39
def wf_X12_put_b3 : List (Nat × Nat) := [(119, 21), (139, 0)]
theorem fr_X12_put_b3 (x1 : Int32) (x2 : Int32) (h : qa_M) {z : ((Int32 × Int32 × qa_M) ⊕ qa_M)} (E : f_X12_put_b3 x1 x2 h = some z) : qfr wf_X12_put_b3 h ((Sum.elim (fun z : Int32 × Int32 × qa_M => z.2.2) (fun z : qa_M => z)) z) := by
  unfold f_X12_put_b3 at E
  have e_h : qfr wf_X12_put_b3 h h := qfr_rf
  rcases qif_el E with E | E
  · refine qup_f (Q := fun z => qfr wf_X12_put_b3 h ((Sum.elim (fun z : Int32 × Int32 × qa_M => z.2.2) (fun z : qa_M => z)) z)) E (fun rz E => ?_)
    exact qsome_f (Q := fun z => qfr wf_X12_put_b3 h ((fun z : qa_M => z) z)) E e_h
  · obtain ⟨-, E⟩ := qck_el E
    obtain ⟨h19, q_h19, E⟩ := qbd_el E
    have e_h19 := qfr_I0 q_h19 (List.mem_of_getElem? (i := 1) rfl) e_h
    obtain ⟨h27, q_h27, E⟩ := qbd_el E
    have e_h27 := qfr_Ik q_h27 (List.mem_of_getElem? (i := 0) rfl) e_h19
    obtain ⟨v30, -, E⟩ := qbd_el E
    exact qsome_f (Q := fun z => qfr wf_X12_put_b3 h ((Sum.elim (fun z : Int32 × Int32 × qa_M => z.2.2) (fun z : qa_M => z)) z)) E e_h27
theorem fr_X12_put_b3_loop (x1 : Int32) (x2 : Int32) (h : qa_M) {z : qa_M} (E : f_X12_put_b3_loop x1 x2 h = some z) : qfr wf_X12_put_b3 h ((fun z : qa_M => z) z) :=
  qlp_ind (fun sz : Int32 × Int32 × qa_M => qfr wf_X12_put_b3 (sz.2.2) ((fun z : qa_M => z) z)) (fun sz E => fr_X12_put_b3 sz.1 sz.2.1 sz.2.2 E) (fun sz sz2 E ih => qfr_tr (fr_X12_put_b3 sz.1 sz.2.1 sz.2.2 E) ih) (x1, x2, h) E
def w_X12_put : List (Nat × Nat) := [(119, 21), (139, 0)]
theorem fr_X12_put (x1 : Int32) (h : qa_M) {z : qa_M} (E : m_X12_put x1 h = some z) : qfr w_X12_put h ((fun z : qa_M => z) z) := by
  unfold m_X12_put at E
  have e_h : qfr w_X12_put h h := qfr_rf
  obtain ⟨v2, -, E⟩ := qbd_el E
  exact qfr_tr e_h (qfr_sub (qsub_c (List.mem_of_getElem? (i := 0) rfl) (qsub_c (List.mem_of_getElem? (i := 1) rfl) qsub_nil)) (fr_X12_put_b3_loop x1 v2 h E))
def w_X12_feed : List (Nat × Nat) := [(119, 21), (139, 0)]
theorem fr_X12_feed (x1 : Int32) (x2 : Int32) (x3 : Int32) (x4 : Int32) (x5 : Int32) (h : qa_M) {z : (Int32 × qa_M)} (E : m_X12_feed x1 x2 x3 x4 x5 h = some z) : qfr w_X12_feed h ((fun z : Int32 × qa_M => z.2) z) := by
  unfold m_X12_feed at E
  have e_h : qfr w_X12_feed h h := qfr_rf
  rcases qif_el E with E | E
  · obtain ⟨h17, E0, E⟩ := qbv_el E
    have e_h17 := qfr_tr e_h (qfr_sub (qsub_c (List.mem_of_getElem? (i := 0) rfl) (qsub_c (List.mem_of_getElem? (i := 1) rfl) qsub_nil)) (fr_X12_put x1 h E0))
    obtain ⟨h22, E0, E⟩ := qbv_el E
    have e_h22 := qfr_tr e_h17 (qfr_sub (qsub_c (List.mem_of_getElem? (i := 0) rfl) (qsub_c (List.mem_of_getElem? (i := 1) rfl) qsub_nil)) (fr_X12_put x2 h17 E0))
    obtain ⟨h27, E0, E⟩ := qbv_el E
    have e_h27 := qfr_tr e_h22 (qfr_sub (qsub_c (List.mem_of_getElem? (i := 0) rfl) (qsub_c (List.mem_of_getElem? (i := 1) rfl) qsub_nil)) (fr_X12_put x3 h22 E0))
    obtain ⟨h33, E0, E⟩ := qbv_el E
    have e_h33 := qfr_tr e_h27 (qfr_sub (qsub_c (List.mem_of_getElem? (i := 0) rfl) (qsub_c (List.mem_of_getElem? (i := 1) rfl) qsub_nil)) (fr_X12_put x4 h27 E0))
    obtain ⟨h39, E0, E⟩ := qbv_el E
    have e_h39 := qfr_tr e_h33 (qfr_sub (qsub_c (List.mem_of_getElem? (i := 0) rfl) (qsub_c (List.mem_of_getElem? (i := 1) rfl) qsub_nil)) (fr_X12_put x5 h33 E0))
    exact qsome_f (Q := fun z => qfr w_X12_feed h ((fun z : Int32 × qa_M => z.2) z)) E e_h39
  · exact qsome_f (Q := fun z => qfr w_X12_feed h ((fun z : Int32 × qa_M => z.2) z)) E e_h
def w_X12_end : List (Nat × Nat) := [(119, 21)]
theorem fr_X12_end (x1 : Int32) (h : qa_M) {z : (Int32 × qa_M)} (E : m_X12_end x1 h = some z) : qfr w_X12_end h ((fun z : Int32 × qa_M => z.2) z) := by
  unfold m_X12_end at E
  have e_h : qfr w_X12_end h h := qfr_rf
  rcases qif_el E with E | E
  · exact qsome_f (Q := fun z => qfr w_X12_end h ((fun z : Int32 × qa_M => z.2) z)) E e_h
  · rcases qif_el E with E | E
    · obtain ⟨h16, q_h16, E⟩ := qbd_el E
      have e_h16 := qfr_Ik q_h16 (List.mem_of_getElem? (i := 0) rfl) e_h
      exact qsome_f (Q := fun z => qfr w_X12_end h ((fun z : Int32 × qa_M => z.2) z)) E e_h16
    · exact qsome_f (Q := fun z => qfr w_X12_end h ((fun z : Int32 × qa_M => z.2) z)) E e_h
def w_X12_starts : List (Nat × Nat) := [(119, 22), (119, 23), (119, 26), (119, 27), (119, 28)]
theorem fr_X12_starts (h : qa_M) {z : qa_M} (E : m_X12_starts h = some z) : qfr w_X12_starts h ((fun z : qa_M => z) z) := by
  unfold m_X12_starts at E
  have e_h : qfr w_X12_starts h h := qfr_rf
  obtain ⟨h2, q_h2, E⟩ := qbd_el E
  have e_h2 := qfr_Ik q_h2 (List.mem_of_getElem? (i := 0) rfl) e_h
  obtain ⟨h7, q_h7, E⟩ := qbd_el E
  have e_h7 := qfr_Ik q_h7 (List.mem_of_getElem? (i := 1) rfl) e_h2
  obtain ⟨h12, q_h12, E⟩ := qbd_el E
  have e_h12 := qfr_Ik q_h12 (List.mem_of_getElem? (i := 2) rfl) e_h7
  obtain ⟨h17, q_h17, E⟩ := qbd_el E
  have e_h17 := qfr_Ik q_h17 (List.mem_of_getElem? (i := 3) rfl) e_h12
  obtain ⟨h22, q_h22, E⟩ := qbd_el E
  have e_h22 := qfr_Ik q_h22 (List.mem_of_getElem? (i := 4) rfl) e_h17
  exact qsome_f (Q := fun z => qfr w_X12_starts h ((fun z : qa_M => z) z)) E e_h22
theorem fr_X12_sign (h : qa_M) {z : (Int32 × qa_M)} (E : m_X12_sign h = some z) : qfr wz h ((fun z : Int32 × qa_M => z.2) z) := by
  unfold m_X12_sign at E
  have e_h : qfr wz h h := qfr_rf
  rcases qif_el E with E | E
  · exact qsome_f (Q := fun z => qfr wz h ((fun z : Int32 × qa_M => z.2) z)) E e_h
  · obtain ⟨-, E⟩ := qck_el E
    exact qsome_f (Q := fun z => qfr wz h ((fun z : Int32 × qa_M => z.2) z)) E e_h
def wf_X12_blanks_b0 : List (Nat × Nat) := [(119, 22)]
theorem fr_X12_blanks_b0 (h : qa_M) {z : ((qa_M) ⊕ qa_M)} (E : f_X12_blanks_b0 h = some z) : qfr wf_X12_blanks_b0 h ((Sum.elim (fun z : qa_M => z) (fun z : qa_M => z)) z) := by
  unfold f_X12_blanks_b0 at E
  have e_h : qfr wf_X12_blanks_b0 h h := qfr_rf
  obtain ⟨c1, h1, E0, E⟩ := qbn_el E
  have e_h1 := qfr_tr e_h (qfr_sub qsub_nil (fr_X12_sign h E0))
  rcases qif_el E with E | E
  · obtain ⟨h16, q_h16, E⟩ := qbd_el E
    have e_h16 := qfr_Ik q_h16 (List.mem_of_getElem? (i := 0) rfl) e_h1
    exact qsome_f (Q := fun z => qfr wf_X12_blanks_b0 h ((Sum.elim (fun z : qa_M => z) (fun z : qa_M => z)) z)) E e_h16
  · refine qup_f (Q := fun z => qfr wf_X12_blanks_b0 h ((Sum.elim (fun z : qa_M => z) (fun z : qa_M => z)) z)) E (fun rz E => ?_)
    exact qsome_f (Q := fun z => qfr wf_X12_blanks_b0 h ((fun z : qa_M => z) z)) E e_h1
theorem fr_X12_blanks_b0_loop (h : qa_M) {z : qa_M} (E : f_X12_blanks_b0_loop h = some z) : qfr wf_X12_blanks_b0 h ((fun z : qa_M => z) z) :=
  qlp_ind (fun sz : qa_M => qfr wf_X12_blanks_b0 (sz) ((fun z : qa_M => z) z)) (fun sz E => fr_X12_blanks_b0 sz E) (fun sz sz2 E ih => qfr_tr (fr_X12_blanks_b0 sz E) ih) h E
def w_X12_blanks : List (Nat × Nat) := [(119, 22)]
theorem fr_X12_blanks (h : qa_M) {z : qa_M} (E : m_X12_blanks h = some z) : qfr w_X12_blanks h ((fun z : qa_M => z) z) := by
  unfold m_X12_blanks at E
  have e_h : qfr w_X12_blanks h h := qfr_rf
  exact qfr_tr e_h (qfr_sub (qsub_c (List.mem_of_getElem? (i := 0) rfl) qsub_nil) (fr_X12_blanks_b0_loop h E))
theorem fr_X12_landWord (x0 : Int32) (h : qa_M) {z : (Nat × qa_M)} (E : m_X12_landWord x0 h = some z) : qfr wz h ((fun z : Nat × qa_M => z.2) z) := by
  unfold m_X12_landWord at E
  have e_h : qfr wz h h := qfr_rf
  rcases qif_el E with E | E
  · exact qsome_f (Q := fun z => qfr wz h ((fun z : Nat × qa_M => z.2) z)) E e_h
  · rcases qif_el E with E | E
    · exact qsome_f (Q := fun z => qfr wz h ((fun z : Nat × qa_M => z.2) z)) E e_h
    · rcases qif_el E with E | E
      · exact qsome_f (Q := fun z => qfr wz h ((fun z : Nat × qa_M => z.2) z)) E e_h
      · rcases qif_el E with E | E
        · exact qsome_f (Q := fun z => qfr wz h ((fun z : Nat × qa_M => z.2) z)) E e_h
        · exact qsome_f (Q := fun z => qfr wz h ((fun z : Nat × qa_M => z.2) z)) E e_h
theorem fr_X12_stood_b102 (k1 : Nat) (x4 : Int32) (s0 : Int32) (h : qa_M) {z : ((Int32 × Int32 × qa_M) ⊕ (Int32 × qa_M))} (E : f_X12_stood_b102 k1 x4 s0 h = some z) : qfr wz h ((Sum.elim (fun z : Int32 × Int32 × qa_M => z.2.2) (fun z : Int32 × qa_M => z.2)) z) := by
  unfold f_X12_stood_b102 at E
  have e_h : qfr wz h h := qfr_rf
  obtain ⟨v102, -, E⟩ := qbd_el E
  obtain ⟨v103, -, E⟩ := qbd_el E
  exact qsome_f (Q := fun z => qfr wz h ((Sum.elim (fun z : Int32 × Int32 × qa_M => z.2.2) (fun z : Int32 × qa_M => z.2)) z)) E e_h
theorem fr_X12_stood_b63 (k1 : Nat) (x3 : Int32) (x4 : Int32) (h : qa_M) {z : ((Int32 × Int32 × qa_M) ⊕ (Int32 × qa_M))} (E : f_X12_stood_b63 k1 x3 x4 h = some z) : qfr wz h ((Sum.elim (fun z : Int32 × Int32 × qa_M => z.2.2) (fun z : Int32 × qa_M => z.2)) z) := by
  unfold f_X12_stood_b63 at E
  have e_h : qfr wz h h := qfr_rf
  rcases qif_el E with E | E
  · obtain ⟨-, E⟩ := qpr_el E
    refine qup_f (Q := fun z => qfr wz h ((Sum.elim (fun z : Int32 × Int32 × qa_M => z.2.2) (fun z : Int32 × qa_M => z.2)) z)) E (fun rz E => ?_)
    exact qsome_f (Q := fun z => qfr wz h ((fun z : Int32 × qa_M => z.2) z)) E e_h
  · rcases qif_el E with E | E
    · obtain ⟨-, E⟩ := qpr_el E
      refine qup_f (Q := fun z => qfr wz h ((Sum.elim (fun z : Int32 × Int32 × qa_M => z.2.2) (fun z : Int32 × qa_M => z.2)) z)) E (fun rz E => ?_)
      exact qsome_f (Q := fun z => qfr wz h ((fun z : Int32 × qa_M => z.2) z)) E e_h
    · obtain ⟨-, E⟩ := qck_el E
      obtain ⟨-, E⟩ := qck_el E
      rcases qif_el E with E | E
      · exact qfr_tr e_h (qfr_sub qsub_nil (fr_X12_stood_b102 k1 x4 (1 : Int32) h E))
      · exact qfr_tr e_h (qfr_sub qsub_nil (fr_X12_stood_b102 k1 x4 (0 : Int32) h E))
theorem fr_X12_stood_b63_loop (k1 : Nat) (x3 : Int32) (x4 : Int32) (h : qa_M) {z : (Int32 × qa_M)} (E : f_X12_stood_b63_loop k1 x3 x4 h = some z) : qfr wz h ((fun z : Int32 × qa_M => z.2) z) :=
  qlp_ind (fun sz : Int32 × Int32 × qa_M => qfr wz (sz.2.2) ((fun z : Int32 × qa_M => z.2) z)) (fun sz E => fr_X12_stood_b63 k1 sz.1 sz.2.1 sz.2.2 E) (fun sz sz2 E ih => qfr_tr (fr_X12_stood_b63 k1 sz.1 sz.2.1 sz.2.2 E) ih) (x3, x4, h) E
theorem fr_X12_stood_b59 (k1 : Nat) (s0 : Int32) (h : qa_M) {z : (Int32 × qa_M)} (E : f_X12_stood_b59 k1 s0 h = some z) : qfr wz h ((fun z : Int32 × qa_M => z.2) z) := by
  unfold f_X12_stood_b59 at E
  have e_h : qfr wz h h := qfr_rf
  obtain ⟨v59, -, E⟩ := qbd_el E
  obtain ⟨v61, -, E⟩ := qbd_el E
  exact qfr_tr e_h (qfr_sub qsub_nil (fr_X12_stood_b63_loop k1 v59 v61 h E))
theorem fr_X12_stood_b41 (k1 : Nat) (x2 : Int32) (h : qa_M) {z : (Int32 × qa_M)} (E : f_X12_stood_b41 k1 x2 h = some z) : qfr wz h ((fun z : Int32 × qa_M => z.2) z) := by
  unfold f_X12_stood_b41 at E
  have e_h : qfr wz h h := qfr_rf
  rcases qif_el E with E | E
  · exact qfr_tr e_h (qfr_sub qsub_nil (fr_X12_stood_b59 k1 (1 : Int32) h E))
  · exact qfr_tr e_h (qfr_sub qsub_nil (fr_X12_stood_b59 k1 (0 : Int32) h E))
theorem fr_X12_stood_b5 (k1 : Nat) (x2 : Int32) (h : qa_M) {z : ((Int32 × qa_M) ⊕ (Int32 × qa_M))} (E : f_X12_stood_b5 k1 x2 h = some z) : qfr wz h ((Sum.elim (fun z : Int32 × qa_M => z.2) (fun z : Int32 × qa_M => z.2)) z) := by
  unfold f_X12_stood_b5 at E
  have e_h : qfr wz h h := qfr_rf
  rcases qif_el E with E | E
  · refine qup_f (Q := fun z => qfr wz h ((Sum.elim (fun z : Int32 × qa_M => z.2) (fun z : Int32 × qa_M => z.2)) z)) E (fun rz E => ?_)
    exact qfr_tr e_h (qfr_sub qsub_nil (fr_X12_stood_b41 k1 x2 h E))
  · obtain ⟨-, E⟩ := qck_el E
    rcases qif_el E with E | E
    · refine qup_f (Q := fun z => qfr wz h ((Sum.elim (fun z : Int32 × qa_M => z.2) (fun z : Int32 × qa_M => z.2)) z)) E (fun rz E => ?_)
      exact qfr_tr e_h (qfr_sub qsub_nil (fr_X12_stood_b41 k1 x2 h E))
    · obtain ⟨-, E⟩ := qck_el E
      rcases qif_el E with E | E
      · refine qup_f (Q := fun z => qfr wz h ((Sum.elim (fun z : Int32 × qa_M => z.2) (fun z : Int32 × qa_M => z.2)) z)) E (fun rz E => ?_)
        exact qfr_tr e_h (qfr_sub qsub_nil (fr_X12_stood_b41 k1 x2 h E))
      · obtain ⟨v35, -, E⟩ := qbd_el E
        exact qsome_f (Q := fun z => qfr wz h ((Sum.elim (fun z : Int32 × qa_M => z.2) (fun z : Int32 × qa_M => z.2)) z)) E e_h
theorem fr_X12_stood_b5_loop (k1 : Nat) (x2 : Int32) (h : qa_M) {z : (Int32 × qa_M)} (E : f_X12_stood_b5_loop k1 x2 h = some z) : qfr wz h ((fun z : Int32 × qa_M => z.2) z) :=
  qlp_ind (fun sz : Int32 × qa_M => qfr wz (sz.2) ((fun z : Int32 × qa_M => z.2) z)) (fun sz E => fr_X12_stood_b5 k1 sz.1 sz.2 E) (fun sz sz2 E ih => qfr_tr (fr_X12_stood_b5 k1 sz.1 sz.2 E) ih) (x2, h) E
theorem fr_X12_stood (k1 : Nat) (h : qa_M) {z : (Int32 × qa_M)} (E : m_X12_stood k1 h = some z) : qfr wz h ((fun z : Int32 × qa_M => z.2) z) := by
  unfold m_X12_stood at E
  have e_h : qfr wz h h := qfr_rf
  obtain ⟨v4, -, E⟩ := qbd_el E
  exact qfr_tr e_h (qfr_sub qsub_nil (fr_X12_stood_b5_loop k1 v4 h E))
def wf_X12_fails_b23 : List (Nat × Nat) := [(119, 23)]
theorem fr_X12_fails_b23 (s1 : Int32) (h : qa_M) {z : qa_M} (E : f_X12_fails_b23 s1 h = some z) : qfr wf_X12_fails_b23 h ((fun z : qa_M => z) z) := by
  unfold f_X12_fails_b23 at E
  have e_h : qfr wf_X12_fails_b23 h h := qfr_rf
  obtain ⟨h23, q_h23, E⟩ := qbd_el E
  have e_h23 := qfr_Ik q_h23 (List.mem_of_getElem? (i := 0) rfl) e_h
  exact qsome_f (Q := fun z => qfr wf_X12_fails_b23 h ((fun z : qa_M => z) z)) E e_h23
def w_X12_fails : List (Nat × Nat) := [(119, 23)]
theorem fr_X12_fails (x1 : Int32) (x2 : Int32) (h : qa_M) {z : qa_M} (E : m_X12_fails x1 x2 h = some z) : qfr w_X12_fails h ((fun z : qa_M => z) z) := by
  unfold m_X12_fails at E
  have e_h : qfr w_X12_fails h h := qfr_rf
  rcases qif_el E with E | E
  · exact qfr_tr e_h (qfr_sub (qsub_c (List.mem_of_getElem? (i := 0) rfl) qsub_nil) (fr_X12_fails_b23 (((1 : Int32) + ((8 : Int32) * x2)) + x1) h E))
  · exact qfr_tr e_h (qfr_sub (qsub_c (List.mem_of_getElem? (i := 0) rfl) qsub_nil) (fr_X12_fails_b23 (h.1 119 22) h E))
theorem fr_X12_isFull_b76 (h : qa_M) {z : (Int32 × qa_M)} (E : f_X12_isFull_b76 h = some z) : qfr wz h ((fun z : Int32 × qa_M => z.2) z) := by
  unfold f_X12_isFull_b76 at E
  have e_h : qfr wz h h := qfr_rf
  exact qsome_f (Q := fun z => qfr wz h ((fun z : Int32 × qa_M => z.2) z)) E e_h
theorem fr_X12_isFull_b61 (x1 : Int32) (h : qa_M) {z : (Int32 × qa_M)} (E : f_X12_isFull_b61 x1 h = some z) : qfr wz h ((fun z : Int32 × qa_M => z.2) z) := by
  unfold f_X12_isFull_b61 at E
  have e_h : qfr wz h h := qfr_rf
  rcases qif_el E with E | E
  · obtain ⟨-, E⟩ := qck_el E
    rcases qif_el E with E | E
    · exact qfr_tr e_h (qfr_sub qsub_nil (fr_X12_isFull_b76 h E))
    · exact qsome_f (Q := fun z => qfr wz h ((fun z : Int32 × qa_M => z.2) z)) E e_h
  · exact qsome_f (Q := fun z => qfr wz h ((fun z : Int32 × qa_M => z.2) z)) E e_h
theorem fr_X12_isFull_b45 (x1 : Int32) (h : qa_M) {z : (Int32 × qa_M)} (E : f_X12_isFull_b45 x1 h = some z) : qfr wz h ((fun z : Int32 × qa_M => z.2) z) := by
  unfold f_X12_isFull_b45 at E
  have e_h : qfr wz h h := qfr_rf
  rcases qif_el E with E | E
  · obtain ⟨-, E⟩ := qck_el E
    rcases qif_el E with E | E
    · exact qfr_tr e_h (qfr_sub qsub_nil (fr_X12_isFull_b76 h E))
    · exact qfr_tr e_h (qfr_sub qsub_nil (fr_X12_isFull_b61 x1 h E))
  · exact qfr_tr e_h (qfr_sub qsub_nil (fr_X12_isFull_b61 x1 h E))
theorem fr_X12_isFull_b25 (x1 : Int32) (x3 : Int32) (s0 : Int32) (h : qa_M) {z : (Int32 × qa_M)} (E : f_X12_isFull_b25 x1 x3 s0 h = some z) : qfr wz h ((fun z : Int32 × qa_M => z.2) z) := by
  unfold f_X12_isFull_b25 at E
  have e_h : qfr wz h h := qfr_rf
  rcases qif_el E with E | E
  · rcases qif_el E with E | E
    · obtain ⟨-, E⟩ := qck_el E
      rcases qif_el E with E | E
      · exact qfr_tr e_h (qfr_sub qsub_nil (fr_X12_isFull_b76 h E))
      · exact qfr_tr e_h (qfr_sub qsub_nil (fr_X12_isFull_b45 x1 h E))
    · exact qfr_tr e_h (qfr_sub qsub_nil (fr_X12_isFull_b45 x1 h E))
  · exact qfr_tr e_h (qfr_sub qsub_nil (fr_X12_isFull_b76 h E))
theorem fr_X12_isFull_b9 (x1 : Int32) (x2 : Int32) (s0 : Int32) (h : qa_M) {z : (Int32 × qa_M)} (E : f_X12_isFull_b9 x1 x2 s0 h = some z) : qfr wz h ((fun z : Int32 × qa_M => z.2) z) := by
  unfold f_X12_isFull_b9 at E
  have e_h : qfr wz h h := qfr_rf
  obtain ⟨v9, -, E⟩ := qbd_el E
  rcases qif_el E with E | E
  · exact qfr_tr e_h (qfr_sub qsub_nil (fr_X12_isFull_b76 h E))
  · rcases qif_el E with E | E
    · exact qfr_tr e_h (qfr_sub qsub_nil (fr_X12_isFull_b25 x1 v9 (1 : Int32) h E))
    · exact qfr_tr e_h (qfr_sub qsub_nil (fr_X12_isFull_b25 x1 v9 (0 : Int32) h E))
theorem fr_X12_isFull (x1 : Int32) (x2 : Int32) (h : qa_M) {z : (Int32 × qa_M)} (E : m_X12_isFull x1 x2 h = some z) : qfr wz h ((fun z : Int32 × qa_M => z.2) z) := by
  unfold m_X12_isFull at E
  have e_h : qfr wz h h := qfr_rf
  rcases qif_el E with E | E
  · exact qfr_tr e_h (qfr_sub qsub_nil (fr_X12_isFull_b9 x1 x2 (1 : Int32) h E))
  · exact qfr_tr e_h (qfr_sub qsub_nil (fr_X12_isFull_b9 x1 x2 (0 : Int32) h E))
theorem fr_X12_in (x0 : Int64) (x2 : Int64) (x4 : Int64) (h : qa_M) {z : (Int32 × qa_M)} (E : m_X12_in x0 x2 x4 h = some z) : qfr wz h ((fun z : Int32 × qa_M => z.2) z) := by
  unfold m_X12_in at E
  have e_h : qfr wz h h := qfr_rf
  rcases qif_el E with E | E
  · exact qsome_f (Q := fun z => qfr wz h ((fun z : Int32 × qa_M => z.2) z)) E e_h
  · rcases qif_el E with E | E
    · exact qsome_f (Q := fun z => qfr wz h ((fun z : Int32 × qa_M => z.2) z)) E e_h
    · exact qsome_f (Q := fun z => qfr wz h ((fun z : Int32 × qa_M => z.2) z)) E e_h
theorem fr_X12_isDigit (h : qa_M) {z : (Int32 × qa_M)} (E : m_X12_isDigit h = some z) : qfr wz h ((fun z : Int32 × qa_M => z.2) z) := by
  unfold m_X12_isDigit at E
  have e_h : qfr wz h h := qfr_rf
  obtain ⟨c1, h1, E0, E⟩ := qbn_el E
  have e_h1 := qfr_tr e_h (qfr_sub qsub_nil (fr_X12_sign h E0))
  obtain ⟨c11, h11, E0, E⟩ := qbn_el E
  have e_h11 := qfr_tr e_h1 (qfr_sub qsub_nil (fr_X12_in c1.toInt64 (48 : Int64) (57 : Int64) h1 E0))
  obtain ⟨-, E⟩ := qpr_el E
  exact qsome_f (Q := fun z => qfr wz h ((fun z : Int32 × qa_M => z.2) z)) E e_h11
def wf_X12_digits_b87 : List (Nat × Nat) := [(119, 23)]
theorem fr_X12_digits_b87 (x2 : Int32) (x3 : Int32) (h : qa_M) {z : (Int32 × qa_M)} (E : f_X12_digits_b87 x2 x3 h = some z) : qfr wf_X12_digits_b87 h ((fun z : Int32 × qa_M => z.2) z) := by
  unfold f_X12_digits_b87 at E
  have e_h : qfr wf_X12_digits_b87 h h := qfr_rf
  obtain ⟨h90, E0, E⟩ := qbv_el E
  have e_h90 := qfr_tr e_h (qfr_sub (qsub_c (List.mem_of_getElem? (i := 0) rfl) qsub_nil) (fr_X12_fails (1 : Int32) x2 h E0))
  exact qsome_f (Q := fun z => qfr wf_X12_digits_b87 h ((fun z : Int32 × qa_M => z.2) z)) E e_h90
def wf_X12_digits_b72 : List (Nat × Nat) := [(119, 23)]
theorem fr_X12_digits_b72 (x1 : Int32) (x2 : Int32) (x3 : Int32) (h : qa_M) {z : (Int32 × qa_M)} (E : f_X12_digits_b72 x1 x2 x3 h = some z) : qfr wf_X12_digits_b72 h ((fun z : Int32 × qa_M => z.2) z) := by
  unfold f_X12_digits_b72 at E
  have e_h : qfr wf_X12_digits_b72 h h := qfr_rf
  rcases qif_el E with E | E
  · exact qfr_tr e_h (qfr_sub (qsub_c (List.mem_of_getElem? (i := 0) rfl) qsub_nil) (fr_X12_digits_b87 x2 x3 h E))
  · rcases qif_el E with E | E
    · exact qsome_f (Q := fun z => qfr wf_X12_digits_b72 h ((fun z : Int32 × qa_M => z.2) z)) E e_h
    · exact qfr_tr e_h (qfr_sub (qsub_c (List.mem_of_getElem? (i := 0) rfl) qsub_nil) (fr_X12_digits_b87 x2 x3 h E))
def wf_X12_digits_b58 : List (Nat × Nat) := [(119, 22)]
theorem fr_X12_digits_b58 (x1 : Int32) (x2 : Int32) (s0 : Int32) (h : qa_M) {z : ((Int32 × Int32 × Int32 × qa_M) ⊕ (Int32 × qa_M))} (E : f_X12_digits_b58 x1 x2 s0 h = some z) : qfr wf_X12_digits_b58 h ((Sum.elim (fun z : Int32 × Int32 × Int32 × qa_M => z.2.2.2) (fun z : Int32 × qa_M => z.2)) z) := by
  unfold f_X12_digits_b58 at E
  have e_h : qfr wf_X12_digits_b58 h h := qfr_rf
  obtain ⟨v58, -, E⟩ := qbd_el E
  obtain ⟨h66, q_h66, E⟩ := qbd_el E
  have e_h66 := qfr_Ik q_h66 (List.mem_of_getElem? (i := 0) rfl) e_h
  exact qsome_f (Q := fun z => qfr wf_X12_digits_b58 h ((Sum.elim (fun z : Int32 × Int32 × Int32 × qa_M => z.2.2.2) (fun z : Int32 × qa_M => z.2)) z)) E e_h66
def wf_X12_digits_b25 : List (Nat × Nat) := [(119, 22), (119, 23)]
theorem fr_X12_digits_b25 (x1 : Int32) (x2 : Int32) (x3 : Int32) (h : qa_M) {z : ((Int32 × Int32 × Int32 × qa_M) ⊕ (Int32 × qa_M))} (E : f_X12_digits_b25 x1 x2 x3 h = some z) : qfr wf_X12_digits_b25 h ((Sum.elim (fun z : Int32 × Int32 × Int32 × qa_M => z.2.2.2) (fun z : Int32 × qa_M => z.2)) z) := by
  unfold f_X12_digits_b25 at E
  have e_h : qfr wf_X12_digits_b25 h h := qfr_rf
  obtain ⟨c26, h26, E0, E⟩ := qbn_el E
  have e_h26 := qfr_tr e_h (qfr_sub qsub_nil (fr_X12_isDigit h E0))
  rcases qif_el E with E | E
  · refine qup_f (Q := fun z => qfr wf_X12_digits_b25 h ((Sum.elim (fun z : Int32 × Int32 × Int32 × qa_M => z.2.2.2) (fun z : Int32 × qa_M => z.2)) z)) E (fun rz E => ?_)
    exact qfr_tr e_h26 (qfr_sub (qsub_c (List.mem_of_getElem? (i := 1) rfl) qsub_nil) (fr_X12_digits_b72 x1 x2 x3 h26 E))
  · rcases qif_el E with E | E
    · exact qfr_tr e_h26 (qfr_sub (qsub_c (List.mem_of_getElem? (i := 0) rfl) qsub_nil) (fr_X12_digits_b58 x1 x2 x3 h26 E))
    · obtain ⟨c47, h47, E0, E⟩ := qbn_el E
      have e_h47 := qfr_tr e_h26 (qfr_sub qsub_nil (fr_X12_sign h26 E0))
      exact qfr_tr e_h47 (qfr_sub (qsub_c (List.mem_of_getElem? (i := 0) rfl) qsub_nil) (fr_X12_digits_b58 x1 x2 ((((10 : Int32) * x3) + c47) - (48 : Int32)) h47 E))
theorem fr_X12_digits_b25_loop (x1 : Int32) (x2 : Int32) (x3 : Int32) (h : qa_M) {z : (Int32 × qa_M)} (E : f_X12_digits_b25_loop x1 x2 x3 h = some z) : qfr wf_X12_digits_b25 h ((fun z : Int32 × qa_M => z.2) z) :=
  qlp_ind (fun sz : Int32 × Int32 × Int32 × qa_M => qfr wf_X12_digits_b25 (sz.2.2.2) ((fun z : Int32 × qa_M => z.2) z)) (fun sz E => fr_X12_digits_b25 sz.1 sz.2.1 sz.2.2.1 sz.2.2.2 E) (fun sz sz2 E ih => qfr_tr (fr_X12_digits_b25 sz.1 sz.2.1 sz.2.2.1 sz.2.2.2 E) ih) (x1, x2, x3, h) E
def w_X12_digits : List (Nat × Nat) := [(119, 22), (119, 23)]
theorem fr_X12_digits (x1 : Int32) (h : qa_M) {z : (Int32 × qa_M)} (E : m_X12_digits x1 h = some z) : qfr w_X12_digits h ((fun z : Int32 × qa_M => z.2) z) := by
  unfold m_X12_digits at E
  have e_h : qfr w_X12_digits h h := qfr_rf
  obtain ⟨c1, h1, E0, E⟩ := qbn_el E
  have e_h1 := qfr_tr e_h (qfr_sub qsub_nil (fr_X12_isDigit h E0))
  rcases qif_el E with E | E
  · obtain ⟨h13, E0, E⟩ := qbv_el E
    have e_h13 := qfr_tr e_h1 (qfr_sub (qsub_c (List.mem_of_getElem? (i := 1) rfl) qsub_nil) (fr_X12_fails (0 : Int32) (h1.1 119 21) h1 E0))
    exact qsome_f (Q := fun z => qfr w_X12_digits h ((fun z : Int32 × qa_M => z.2) z)) E e_h13
  · obtain ⟨v22, -, E⟩ := qbd_el E
    obtain ⟨v24, -, E⟩ := qbd_el E
    exact qfr_tr e_h1 (qfr_sub (qsub_c (List.mem_of_getElem? (i := 0) rfl) (qsub_c (List.mem_of_getElem? (i := 1) rfl) qsub_nil)) (fr_X12_digits_b25_loop x1 v22 v24 h1 E))
def wf_X12_amount_b27 : List (Nat × Nat) := [(119, 23)]
theorem fr_X12_amount_b27 (x1 : Int32) (x2 : Int32) (x3 : Int32) (s0 : Int32) (h : qa_M) {z : (Int32 × qa_M)} (E : f_X12_amount_b27 x1 x2 x3 s0 h = some z) : qfr wf_X12_amount_b27 h ((fun z : Int32 × qa_M => z.2) z) := by
  unfold f_X12_amount_b27 at E
  have e_h : qfr wf_X12_amount_b27 h h := qfr_rf
  obtain ⟨v27, -, E⟩ := qbd_el E
  rcases qif_el E with E | E
  · obtain ⟨c43, h43, E0, E⟩ := qbn_el E
    have e_h43 := qfr_tr e_h (qfr_sub qsub_nil (fr_X12_in v27.toInt64 x1.toInt64 x2.toInt64 h E0))
    rcases qif_el E with E | E
    · obtain ⟨h52, E0, E⟩ := qbv_el E
      have e_h52 := qfr_tr e_h43 (qfr_sub (qsub_c (List.mem_of_getElem? (i := 0) rfl) qsub_nil) (fr_X12_fails (1 : Int32) x3 h43 E0))
      exact qsome_f (Q := fun z => qfr wf_X12_amount_b27 h ((fun z : Int32 × qa_M => z.2) z)) E e_h52
    · exact qsome_f (Q := fun z => qfr wf_X12_amount_b27 h ((fun z : Int32 × qa_M => z.2) z)) E e_h43
  · exact qsome_f (Q := fun z => qfr wf_X12_amount_b27 h ((fun z : Int32 × qa_M => z.2) z)) E e_h
def w_X12_amount : List (Nat × Nat) := [(119, 22), (119, 23)]
theorem fr_X12_amount (x1 : Int32) (x2 : Int32) (h : qa_M) {z : (Int32 × qa_M)} (E : m_X12_amount x1 x2 h = some z) : qfr w_X12_amount h ((fun z : Int32 × qa_M => z.2) z) := by
  unfold m_X12_amount at E
  have e_h : qfr w_X12_amount h h := qfr_rf
  obtain ⟨h1, E0, E⟩ := qbv_el E
  have e_h1 := qfr_tr e_h (qfr_sub (qsub_c (List.mem_of_getElem? (i := 0) rfl) qsub_nil) (fr_X12_blanks h E0))
  obtain ⟨v8, -, E⟩ := qbd_el E
  rcases qif_el E with E | E
  · obtain ⟨c20, h20, E0, E⟩ := qbn_el E
    have e_h20 := qfr_tr e_h1 (qfr_sub (qsub_c (List.mem_of_getElem? (i := 0) rfl) (qsub_c (List.mem_of_getElem? (i := 1) rfl) qsub_nil)) (fr_X12_digits (99999 : Int32) h1 E0))
    exact qfr_tr e_h20 (qfr_sub (qsub_c (List.mem_of_getElem? (i := 1) rfl) qsub_nil) (fr_X12_amount_b27 x1 x2 v8 c20 h20 E))
  · exact qfr_tr e_h1 (qfr_sub (qsub_c (List.mem_of_getElem? (i := 1) rfl) qsub_nil) (fr_X12_amount_b27 x1 x2 v8 (0 : Int32) h1 E))
def w_X12_spotX : List (Nat × Nat) := [(119, 22), (119, 23)]
theorem fr_X12_spotX (x1 : Int32) (h : qa_M) {z : (Int32 × qa_M)} (E : m_X12_spotX x1 h = some z) : qfr w_X12_spotX h ((fun z : Int32 × qa_M => z.2) z) := by
  unfold m_X12_spotX at E
  have e_h : qfr w_X12_spotX h h := qfr_rf
  obtain ⟨-, E⟩ := qck_el E
  obtain ⟨c10, h10, E0, E⟩ := qbn_el E
  have e_h10 := qfr_tr e_h (qfr_sub (qsub_c (List.mem_of_getElem? (i := 0) rfl) (qsub_c (List.mem_of_getElem? (i := 1) rfl) qsub_nil)) (fr_X12_amount x1 ((h.1 132 (0 : Int32).toNatClampNeg) - (1 : Int32)) h E0))
  exact qsome_f (Q := fun z => qfr w_X12_spotX h ((fun z : Int32 × qa_M => z.2) z)) E e_h10
def w_X12_spotY : List (Nat × Nat) := [(119, 22), (119, 23)]
theorem fr_X12_spotY (x1 : Int32) (h : qa_M) {z : (Int32 × qa_M)} (E : m_X12_spotY x1 h = some z) : qfr w_X12_spotY h ((fun z : Int32 × qa_M => z.2) z) := by
  unfold m_X12_spotY at E
  have e_h : qfr w_X12_spotY h h := qfr_rf
  obtain ⟨-, E⟩ := qck_el E
  obtain ⟨c10, h10, E0, E⟩ := qbn_el E
  have e_h10 := qfr_tr e_h (qfr_sub (qsub_c (List.mem_of_getElem? (i := 0) rfl) (qsub_c (List.mem_of_getElem? (i := 1) rfl) qsub_nil)) (fr_X12_amount x1 ((h.1 132 (1 : Int32).toNatClampNeg) - (1 : Int32)) h E0))
  exact qsome_f (Q := fun z => qfr w_X12_spotY h ((fun z : Int32 × qa_M => z.2) z)) E e_h10
def wf_X12_woods_b92 : List (Nat × Nat) := [(133, 0)]
theorem fr_X12_woods_b92 (x1 : Int32) (x2 : Int32) (x3 : Int32) (x4 : Int32) (x5 : Int32) (s1 : Int32) (s2 : Int32) (h : qa_M) {z : ((Int32 × Int32 × Int32 × Int32 × Int32 × qa_M) ⊕ qa_M)} (E : f_X12_woods_b92 x1 x2 x3 x4 x5 s1 s2 h = some z) : qfr wf_X12_woods_b92 h ((Sum.elim (fun z : Int32 × Int32 × Int32 × Int32 × Int32 × qa_M => z.2.2.2.2.2) (fun z : qa_M => z)) z) := by
  unfold f_X12_woods_b92 at E
  have e_h : qfr wf_X12_woods_b92 h h := qfr_rf
  obtain ⟨-, E⟩ := qck_el E
  obtain ⟨h92, q_h92, E⟩ := qbd_el E
  have e_h92 := qfr_I0 q_h92 (List.mem_of_getElem? (i := 0) rfl) e_h
  obtain ⟨v93, -, E⟩ := qbd_el E
  exact qsome_f (Q := fun z => qfr wf_X12_woods_b92 h ((Sum.elim (fun z : Int32 × Int32 × Int32 × Int32 × Int32 × qa_M => z.2.2.2.2.2) (fun z : qa_M => z)) z)) E e_h92
def wf_X12_woods_b85 : List (Nat × Nat) := [(133, 0)]
theorem fr_X12_woods_b85 (x1 : Int32) (x2 : Int32) (x3 : Int32) (x4 : Int32) (x5 : Int32) (s1 : Int32) (h : qa_M) {z : ((Int32 × Int32 × Int32 × Int32 × Int32 × qa_M) ⊕ qa_M)} (E : f_X12_woods_b85 x1 x2 x3 x4 x5 s1 h = some z) : qfr wf_X12_woods_b85 h ((Sum.elim (fun z : Int32 × Int32 × Int32 × Int32 × Int32 × qa_M => z.2.2.2.2.2) (fun z : qa_M => z)) z) := by
  unfold f_X12_woods_b85 at E
  have e_h : qfr wf_X12_woods_b85 h h := qfr_rf
  obtain ⟨-, E⟩ := qck_el E
  exact qfr_tr e_h (qfr_sub (qsub_c (List.mem_of_getElem? (i := 0) rfl) qsub_nil) (fr_X12_woods_b92 x1 x2 x3 x4 x5 s1 (h.1 133 x5.toNatClampNeg) h E))
def wf_X12_woods_b28 : List (Nat × Nat) := [(133, 0)]
theorem fr_X12_woods_b28 (x1 : Int32) (x2 : Int32) (x3 : Int32) (x4 : Int32) (x5 : Int32) (h : qa_M) {z : ((Int32 × Int32 × Int32 × Int32 × Int32 × qa_M) ⊕ qa_M)} (E : f_X12_woods_b28 x1 x2 x3 x4 x5 h = some z) : qfr wf_X12_woods_b28 h ((Sum.elim (fun z : Int32 × Int32 × Int32 × Int32 × Int32 × qa_M => z.2.2.2.2.2) (fun z : qa_M => z)) z) := by
  unfold f_X12_woods_b28 at E
  have e_h : qfr wf_X12_woods_b28 h h := qfr_rf
  rcases qif_el E with E | E
  · refine qup_f (Q := fun z => qfr wf_X12_woods_b28 h ((Sum.elim (fun z : Int32 × Int32 × Int32 × Int32 × Int32 × qa_M => z.2.2.2.2.2) (fun z : qa_M => z)) z)) E (fun rz E => ?_)
    exact qsome_f (Q := fun z => qfr wf_X12_woods_b28 h ((fun z : qa_M => z) z)) E e_h
  · rcases qif_el E with E | E
    · obtain ⟨c58, h58, E0, E⟩ := qbn_el E
      have e_h58 := qfr_tr e_h (qfr_sub qsub_nil (fr_X12_in ((x5 - x5 / (6 : Int32) * (6 : Int32)).toInt64) x1.toInt64 x3.toInt64 h E0))
      rcases qif_el E with E | E
      · exact qfr_tr e_h58 (qfr_sub (qsub_c (List.mem_of_getElem? (i := 0) rfl) qsub_nil) (fr_X12_woods_b85 x1 x2 x3 x4 x5 x5 h58 E))
      · obtain ⟨c75, h75, E0, E⟩ := qbn_el E
        have e_h75 := qfr_tr e_h58 (qfr_sub qsub_nil (fr_X12_in ((x5 / (6 : Int32)).toInt64) x2.toInt64 x4.toInt64 h58 E0))
        rcases qif_el E with E | E
        · exact qfr_tr e_h75 (qfr_sub (qsub_c (List.mem_of_getElem? (i := 0) rfl) qsub_nil) (fr_X12_woods_b85 x1 x2 x3 x4 x5 x5 h75 E))
        · exact qfr_tr e_h75 (qfr_sub (qsub_c (List.mem_of_getElem? (i := 0) rfl) qsub_nil) (fr_X12_woods_b92 x1 x2 x3 x4 x5 x5 (1 : Int32) h75 E))
    · refine qup_f (Q := fun z => qfr wf_X12_woods_b28 h ((Sum.elim (fun z : Int32 × Int32 × Int32 × Int32 × Int32 × qa_M => z.2.2.2.2.2) (fun z : qa_M => z)) z)) E (fun rz E => ?_)
      exact qsome_f (Q := fun z => qfr wf_X12_woods_b28 h ((fun z : qa_M => z) z)) E e_h
theorem fr_X12_woods_b28_loop (x1 : Int32) (x2 : Int32) (x3 : Int32) (x4 : Int32) (x5 : Int32) (h : qa_M) {z : qa_M} (E : f_X12_woods_b28_loop x1 x2 x3 x4 x5 h = some z) : qfr wf_X12_woods_b28 h ((fun z : qa_M => z) z) :=
  qlp_ind (fun sz : Int32 × Int32 × Int32 × Int32 × Int32 × qa_M => qfr wf_X12_woods_b28 (sz.2.2.2.2.2) ((fun z : qa_M => z) z)) (fun sz E => fr_X12_woods_b28 sz.1 sz.2.1 sz.2.2.1 sz.2.2.2.1 sz.2.2.2.2.1 sz.2.2.2.2.2 E) (fun sz sz2 E ih => qfr_tr (fr_X12_woods_b28 sz.1 sz.2.1 sz.2.2.1 sz.2.2.2.1 sz.2.2.2.2.1 sz.2.2.2.2.2 E) ih) (x1, x2, x3, x4, x5, h) E
def w_X12_woods : List (Nat × Nat) := [(119, 22), (119, 23), (133, 0)]
theorem fr_X12_woods (h : qa_M) {z : qa_M} (E : m_X12_woods h = some z) : qfr w_X12_woods h ((fun z : qa_M => z) z) := by
  unfold m_X12_woods at E
  have e_h : qfr w_X12_woods h h := qfr_rf
  obtain ⟨c2, h2, E0, E⟩ := qbn_el E
  have e_h2 := qfr_tr e_h (qfr_sub (qsub_c (List.mem_of_getElem? (i := 0) rfl) (qsub_c (List.mem_of_getElem? (i := 1) rfl) qsub_nil)) (fr_X12_spotX (0 : Int32) h E0))
  obtain ⟨v5, -, E⟩ := qbd_el E
  obtain ⟨c8, h8, E0, E⟩ := qbn_el E
  have e_h8 := qfr_tr e_h2 (qfr_sub (qsub_c (List.mem_of_getElem? (i := 0) rfl) (qsub_c (List.mem_of_getElem? (i := 1) rfl) qsub_nil)) (fr_X12_spotY (0 : Int32) h2 E0))
  obtain ⟨v11, -, E⟩ := qbd_el E
  obtain ⟨c14, h14, E0, E⟩ := qbn_el E
  have e_h14 := qfr_tr e_h8 (qfr_sub (qsub_c (List.mem_of_getElem? (i := 0) rfl) (qsub_c (List.mem_of_getElem? (i := 1) rfl) qsub_nil)) (fr_X12_spotX v5 h8 E0))
  obtain ⟨v17, -, E⟩ := qbd_el E
  obtain ⟨c20, h20, E0, E⟩ := qbn_el E
  have e_h20 := qfr_tr e_h14 (qfr_sub (qsub_c (List.mem_of_getElem? (i := 0) rfl) (qsub_c (List.mem_of_getElem? (i := 1) rfl) qsub_nil)) (fr_X12_spotY v11 h14 E0))
  obtain ⟨v23, -, E⟩ := qbd_el E
  obtain ⟨v26, -, E⟩ := qbd_el E
  exact qfr_tr e_h20 (qfr_sub (qsub_c (List.mem_of_getElem? (i := 2) rfl) qsub_nil) (fr_X12_woods_b28_loop v5 v11 v17 v23 v26 h20 E))
theorem fr_X12_isNewHill_b33 (x1 : Int32) (x3 : Int32) (s0 : Int32) (h : qa_M) {z : ((Int32 × Int32 × Int32 × qa_M) ⊕ (Int32 × qa_M))} (E : f_X12_isNewHill_b33 x1 x3 s0 h = some z) : qfr wz h ((Sum.elim (fun z : Int32 × Int32 × Int32 × qa_M => z.2.2.2) (fun z : Int32 × qa_M => z.2)) z) := by
  unfold f_X12_isNewHill_b33 at E
  have e_h : qfr wz h h := qfr_rf
  obtain ⟨v33, -, E⟩ := qbd_el E
  obtain ⟨v34, -, E⟩ := qbd_el E
  exact qsome_f (Q := fun z => qfr wz h ((Sum.elim (fun z : Int32 × Int32 × Int32 × qa_M => z.2.2.2) (fun z : Int32 × qa_M => z.2)) z)) E e_h
theorem fr_X12_isNewHill_b28 (x1 : Int32) (x3 : Int32) (h : qa_M) {z : ((Int32 × Int32 × Int32 × qa_M) ⊕ (Int32 × qa_M))} (E : f_X12_isNewHill_b28 x1 x3 h = some z) : qfr wz h ((Sum.elim (fun z : Int32 × Int32 × Int32 × qa_M => z.2.2.2) (fun z : Int32 × qa_M => z.2)) z) := by
  unfold f_X12_isNewHill_b28 at E
  have e_h : qfr wz h h := qfr_rf
  exact qfr_tr e_h (qfr_sub qsub_nil (fr_X12_isNewHill_b33 x1 x3 (1 : Int32) h E))
theorem fr_X12_isNewHill_b4 (x1 : Int32) (x2 : Int32) (x3 : Int32) (h : qa_M) {z : ((Int32 × Int32 × Int32 × qa_M) ⊕ (Int32 × qa_M))} (E : f_X12_isNewHill_b4 x1 x2 x3 h = some z) : qfr wz h ((Sum.elim (fun z : Int32 × Int32 × Int32 × qa_M => z.2.2.2) (fun z : Int32 × qa_M => z.2)) z) := by
  unfold f_X12_isNewHill_b4 at E
  have e_h : qfr wz h h := qfr_rf
  obtain ⟨-, E⟩ := qck_el E
  rcases qif_el E with E | E
  · obtain ⟨-, E⟩ := qpr_el E
    refine qup_f (Q := fun z => qfr wz h ((Sum.elim (fun z : Int32 × Int32 × Int32 × qa_M => z.2.2.2) (fun z : Int32 × qa_M => z.2)) z)) E (fun rz E => ?_)
    exact qsome_f (Q := fun z => qfr wz h ((fun z : Int32 × qa_M => z.2) z)) E e_h
  · rcases qif_el E with E | E
    · obtain ⟨-, E⟩ := qck_el E
      rcases qif_el E with E | E
      · exact qfr_tr e_h (qfr_sub qsub_nil (fr_X12_isNewHill_b28 x1 x3 h E))
      · exact qfr_tr e_h (qfr_sub qsub_nil (fr_X12_isNewHill_b33 x1 x3 (0 : Int32) h E))
    · exact qfr_tr e_h (qfr_sub qsub_nil (fr_X12_isNewHill_b28 x1 x3 h E))
theorem fr_X12_isNewHill_b4_loop (x1 : Int32) (x2 : Int32) (x3 : Int32) (h : qa_M) {z : (Int32 × qa_M)} (E : f_X12_isNewHill_b4_loop x1 x2 x3 h = some z) : qfr wz h ((fun z : Int32 × qa_M => z.2) z) :=
  qlp_ind (fun sz : Int32 × Int32 × Int32 × qa_M => qfr wz (sz.2.2.2) ((fun z : Int32 × qa_M => z.2) z)) (fun sz E => fr_X12_isNewHill_b4 sz.1 sz.2.1 sz.2.2.1 sz.2.2.2 E) (fun sz sz2 E ih => qfr_tr (fr_X12_isNewHill_b4 sz.1 sz.2.1 sz.2.2.1 sz.2.2.2 E) ih) (x1, x2, x3, h) E
theorem fr_X12_isNewHill (x1 : Int32) (h : qa_M) {z : (Int32 × qa_M)} (E : m_X12_isNewHill x1 h = some z) : qfr wz h ((fun z : Int32 × qa_M => z.2) z) := by
  unfold m_X12_isNewHill at E
  have e_h : qfr wz h h := qfr_rf
  obtain ⟨v1, -, E⟩ := qbd_el E
  obtain ⟨v3, -, E⟩ := qbd_el E
  exact qfr_tr e_h (qfr_sub qsub_nil (fr_X12_isNewHill_b4_loop x1 v1 v3 h E))
def wf_X12_hill_b47 : List (Nat × Nat) := [(119, 22), (119, 23), (132, 0), (134, 0), (135, 0)]
theorem fr_X12_hill_b47 (x2 : Int32) (x3 : Int32) (h : qa_M) {z : qa_M} (E : f_X12_hill_b47 x2 x3 h = some z) : qfr wf_X12_hill_b47 h ((fun z : qa_M => z) z) := by
  unfold f_X12_hill_b47 at E
  have e_h : qfr wf_X12_hill_b47 h h := qfr_rf
  obtain ⟨-, E⟩ := qck_el E
  obtain ⟨-, E⟩ := qck_el E
  obtain ⟨h63, q_h63, E⟩ := qbd_el E
  have e_h63 := qfr_I0 q_h63 (List.mem_of_getElem? (i := 3) rfl) e_h
  obtain ⟨-, E⟩ := qck_el E
  obtain ⟨c78, h78, E0, E⟩ := qbn_el E
  have e_h78 := qfr_tr e_h63 (qfr_sub (qsub_c (List.mem_of_getElem? (i := 0) rfl) (qsub_c (List.mem_of_getElem? (i := 1) rfl) qsub_nil)) (fr_X12_amount (1 : Int32) (9 : Int32) h63 E0))
  obtain ⟨-, E⟩ := qck_el E
  obtain ⟨h81, q_h81, E⟩ := qbd_el E
  have e_h81 := qfr_I0 q_h81 (List.mem_of_getElem? (i := 4) rfl) e_h78
  obtain ⟨-, E⟩ := qck_el E
  obtain ⟨-, E⟩ := qck_el E
  obtain ⟨h91, q_h91, E⟩ := qbd_el E
  have e_h91 := qfr_I0 q_h91 (List.mem_of_getElem? (i := 2) rfl) e_h81
  exact qsome_f (Q := fun z => qfr wf_X12_hill_b47 h ((fun z : qa_M => z) z)) E e_h91
def w_X12_hill : List (Nat × Nat) := [(119, 22), (119, 23), (132, 0), (134, 0), (135, 0)]
theorem fr_X12_hill (h : qa_M) {z : qa_M} (E : m_X12_hill h = some z) : qfr w_X12_hill h ((fun z : qa_M => z) z) := by
  unfold m_X12_hill at E
  have e_h : qfr w_X12_hill h h := qfr_rf
  obtain ⟨h1, E0, E⟩ := qbv_el E
  have e_h1 := qfr_tr e_h (qfr_sub (qsub_c (List.mem_of_getElem? (i := 0) rfl) qsub_nil) (fr_X12_blanks h E0))
  obtain ⟨v8, -, E⟩ := qbd_el E
  obtain ⟨c11, h11, E0, E⟩ := qbn_el E
  have e_h11 := qfr_tr e_h1 (qfr_sub (qsub_c (List.mem_of_getElem? (i := 0) rfl) (qsub_c (List.mem_of_getElem? (i := 1) rfl) qsub_nil)) (fr_X12_spotX (0 : Int32) h1 E0))
  obtain ⟨v14, -, E⟩ := qbd_el E
  obtain ⟨c17, h17, E0, E⟩ := qbn_el E
  have e_h17 := qfr_tr e_h11 (qfr_sub (qsub_c (List.mem_of_getElem? (i := 0) rfl) (qsub_c (List.mem_of_getElem? (i := 1) rfl) qsub_nil)) (fr_X12_spotY (0 : Int32) h11 E0))
  obtain ⟨v20, -, E⟩ := qbd_el E
  rcases qif_el E with E | E
  · obtain ⟨c35, h35, E0, E⟩ := qbn_el E
    have e_h35 := qfr_tr e_h17 (qfr_sub qsub_nil (fr_X12_isNewHill (((6 : Int32) * v20) + v14) h17 E0))
    rcases qif_el E with E | E
    · exact qfr_tr e_h35 (qfr_sub (qsub_c (List.mem_of_getElem? (i := 0) rfl) (qsub_c (List.mem_of_getElem? (i := 1) rfl) (qsub_c (List.mem_of_getElem? (i := 2) rfl) (qsub_c (List.mem_of_getElem? (i := 3) rfl) (qsub_c (List.mem_of_getElem? (i := 4) rfl) qsub_nil))))) (fr_X12_hill_b47 v14 v20 h35 E))
    · obtain ⟨h44, E0, E⟩ := qbv_el E
      have e_h44 := qfr_tr e_h35 (qfr_sub (qsub_c (List.mem_of_getElem? (i := 1) rfl) qsub_nil) (fr_X12_fails (5 : Int32) v8 h35 E0))
      exact qfr_tr e_h44 (qfr_sub (qsub_c (List.mem_of_getElem? (i := 0) rfl) (qsub_c (List.mem_of_getElem? (i := 1) rfl) (qsub_c (List.mem_of_getElem? (i := 2) rfl) (qsub_c (List.mem_of_getElem? (i := 3) rfl) (qsub_c (List.mem_of_getElem? (i := 4) rfl) qsub_nil))))) (fr_X12_hill_b47 v14 v20 h44 E))
  · exact qfr_tr e_h17 (qfr_sub (qsub_c (List.mem_of_getElem? (i := 0) rfl) (qsub_c (List.mem_of_getElem? (i := 1) rfl) (qsub_c (List.mem_of_getElem? (i := 2) rfl) (qsub_c (List.mem_of_getElem? (i := 3) rfl) (qsub_c (List.mem_of_getElem? (i := 4) rfl) qsub_nil))))) (fr_X12_hill_b47 v14 v20 h17 E))
def wf_X12_road_b60 : List (Nat × Nat) := [(132, 0), (136, 0), (137, 0)]
theorem fr_X12_road_b60 (x2 : Int32) (x3 : Int32) (x4 : Int32) (x5 : Int32) (h : qa_M) {z : qa_M} (E : f_X12_road_b60 x2 x3 x4 x5 h = some z) : qfr wf_X12_road_b60 h ((fun z : qa_M => z) z) := by
  unfold f_X12_road_b60 at E
  have e_h : qfr wf_X12_road_b60 h h := qfr_rf
  obtain ⟨-, E⟩ := qck_el E
  obtain ⟨-, E⟩ := qck_el E
  obtain ⟨h76, q_h76, E⟩ := qbd_el E
  have e_h76 := qfr_I0 q_h76 (List.mem_of_getElem? (i := 1) rfl) e_h
  obtain ⟨-, E⟩ := qck_el E
  obtain ⟨-, E⟩ := qck_el E
  obtain ⟨h95, q_h95, E⟩ := qbd_el E
  have e_h95 := qfr_I0 q_h95 (List.mem_of_getElem? (i := 2) rfl) e_h76
  obtain ⟨-, E⟩ := qck_el E
  obtain ⟨-, E⟩ := qck_el E
  obtain ⟨h105, q_h105, E⟩ := qbd_el E
  have e_h105 := qfr_I0 q_h105 (List.mem_of_getElem? (i := 0) rfl) e_h95
  exact qsome_f (Q := fun z => qfr wf_X12_road_b60 h ((fun z : qa_M => z) z)) E e_h105
def w_X12_road : List (Nat × Nat) := [(119, 22), (119, 23), (132, 0), (136, 0), (137, 0)]
theorem fr_X12_road (h : qa_M) {z : qa_M} (E : m_X12_road h = some z) : qfr w_X12_road h ((fun z : qa_M => z) z) := by
  unfold m_X12_road at E
  have e_h : qfr w_X12_road h h := qfr_rf
  obtain ⟨h1, E0, E⟩ := qbv_el E
  have e_h1 := qfr_tr e_h (qfr_sub (qsub_c (List.mem_of_getElem? (i := 0) rfl) qsub_nil) (fr_X12_blanks h E0))
  obtain ⟨v8, -, E⟩ := qbd_el E
  obtain ⟨c11, h11, E0, E⟩ := qbn_el E
  have e_h11 := qfr_tr e_h1 (qfr_sub (qsub_c (List.mem_of_getElem? (i := 0) rfl) (qsub_c (List.mem_of_getElem? (i := 1) rfl) qsub_nil)) (fr_X12_spotX (0 : Int32) h1 E0))
  obtain ⟨v14, -, E⟩ := qbd_el E
  obtain ⟨c17, h17, E0, E⟩ := qbn_el E
  have e_h17 := qfr_tr e_h11 (qfr_sub (qsub_c (List.mem_of_getElem? (i := 0) rfl) (qsub_c (List.mem_of_getElem? (i := 1) rfl) qsub_nil)) (fr_X12_spotY (0 : Int32) h11 E0))
  obtain ⟨v20, -, E⟩ := qbd_el E
  obtain ⟨c23, h23, E0, E⟩ := qbn_el E
  have e_h23 := qfr_tr e_h17 (qfr_sub (qsub_c (List.mem_of_getElem? (i := 0) rfl) (qsub_c (List.mem_of_getElem? (i := 1) rfl) qsub_nil)) (fr_X12_spotX v14 h17 E0))
  obtain ⟨v26, -, E⟩ := qbd_el E
  obtain ⟨c30, h30, E0, E⟩ := qbn_el E
  have e_h30 := qfr_tr e_h23 (qfr_sub (qsub_c (List.mem_of_getElem? (i := 0) rfl) (qsub_c (List.mem_of_getElem? (i := 1) rfl) qsub_nil)) (fr_X12_spotY v20 h23 E0))
  obtain ⟨v33, -, E⟩ := qbd_el E
  rcases qif_el E with E | E
  · rcases qif_el E with E | E
    · exact qfr_tr e_h30 (qfr_sub (qsub_c (List.mem_of_getElem? (i := 2) rfl) (qsub_c (List.mem_of_getElem? (i := 3) rfl) (qsub_c (List.mem_of_getElem? (i := 4) rfl) qsub_nil))) (fr_X12_road_b60 v14 v20 v26 v33 h30 E))
    · rcases qif_el E with E | E
      · exact qfr_tr e_h30 (qfr_sub (qsub_c (List.mem_of_getElem? (i := 2) rfl) (qsub_c (List.mem_of_getElem? (i := 3) rfl) (qsub_c (List.mem_of_getElem? (i := 4) rfl) qsub_nil))) (fr_X12_road_b60 v14 v20 v26 v33 h30 E))
      · obtain ⟨h57, E0, E⟩ := qbv_el E
        have e_h57 := qfr_tr e_h30 (qfr_sub (qsub_c (List.mem_of_getElem? (i := 1) rfl) qsub_nil) (fr_X12_fails (5 : Int32) v8 h30 E0))
        exact qfr_tr e_h57 (qfr_sub (qsub_c (List.mem_of_getElem? (i := 2) rfl) (qsub_c (List.mem_of_getElem? (i := 3) rfl) (qsub_c (List.mem_of_getElem? (i := 4) rfl) qsub_nil))) (fr_X12_road_b60 v14 v20 v26 v33 h57 E))
  · exact qfr_tr e_h30 (qfr_sub (qsub_c (List.mem_of_getElem? (i := 2) rfl) (qsub_c (List.mem_of_getElem? (i := 3) rfl) (qsub_c (List.mem_of_getElem? (i := 4) rfl) qsub_nil))) (fr_X12_road_b60 v14 v20 v26 v33 h30 E))
def wf_X12_sorted_b66 : List (Nat × Nat) := [(132, 0), (138, 0)]
theorem fr_X12_sorted_b66 (x2 : Int32) (h : qa_M) {z : qa_M} (E : f_X12_sorted_b66 x2 h = some z) : qfr wf_X12_sorted_b66 h ((fun z : qa_M => z) z) := by
  unfold f_X12_sorted_b66 at E
  have e_h : qfr wf_X12_sorted_b66 h h := qfr_rf
  obtain ⟨-, E⟩ := qck_el E
  obtain ⟨-, E⟩ := qck_el E
  obtain ⟨h77, q_h77, E⟩ := qbd_el E
  have e_h77 := qfr_I0 q_h77 (List.mem_of_getElem? (i := 1) rfl) e_h
  obtain ⟨-, E⟩ := qck_el E
  obtain ⟨-, E⟩ := qck_el E
  obtain ⟨h87, q_h87, E⟩ := qbd_el E
  have e_h87 := qfr_I0 q_h87 (List.mem_of_getElem? (i := 0) rfl) e_h77
  exact qsome_f (Q := fun z => qfr wf_X12_sorted_b66 h ((fun z : qa_M => z) z)) E e_h87
def wf_X12_sorted_b48 : List (Nat × Nat) := [(119, 23), (132, 0), (138, 0)]
theorem fr_X12_sorted_b48 (x1 : Int32) (x2 : Int32) (x3 : Int32) (h : qa_M) {z : qa_M} (E : f_X12_sorted_b48 x1 x2 x3 h = some z) : qfr wf_X12_sorted_b48 h ((fun z : qa_M => z) z) := by
  unfold f_X12_sorted_b48 at E
  have e_h : qfr wf_X12_sorted_b48 h h := qfr_rf
  rcases qif_el E with E | E
  · rcases qif_el E with E | E
    · exact qfr_tr e_h (qfr_sub (qsub_c (List.mem_of_getElem? (i := 1) rfl) (qsub_c (List.mem_of_getElem? (i := 2) rfl) qsub_nil)) (fr_X12_sorted_b66 x2 h E))
    · obtain ⟨h63, E0, E⟩ := qbv_el E
      have e_h63 := qfr_tr e_h (qfr_sub (qsub_c (List.mem_of_getElem? (i := 0) rfl) qsub_nil) (fr_X12_fails (5 : Int32) x1 h E0))
      exact qfr_tr e_h63 (qfr_sub (qsub_c (List.mem_of_getElem? (i := 1) rfl) (qsub_c (List.mem_of_getElem? (i := 2) rfl) qsub_nil)) (fr_X12_sorted_b66 x2 h63 E))
  · exact qfr_tr e_h (qfr_sub (qsub_c (List.mem_of_getElem? (i := 1) rfl) (qsub_c (List.mem_of_getElem? (i := 2) rfl) qsub_nil)) (fr_X12_sorted_b66 x2 h E))
def wf_X12_sorted_b21 : List (Nat × Nat) := [(119, 23), (132, 0), (138, 0)]
theorem fr_X12_sorted_b21 (x1 : Int32) (x2 : Int32) (x3 : Int32) (x4 : Int32) (h : qa_M) {z : ((Int32 × Int32 × Int32 × Int32 × qa_M) ⊕ qa_M)} (E : f_X12_sorted_b21 x1 x2 x3 x4 h = some z) : qfr wf_X12_sorted_b21 h ((Sum.elim (fun z : Int32 × Int32 × Int32 × Int32 × qa_M => z.2.2.2.2) (fun z : qa_M => z)) z) := by
  unfold f_X12_sorted_b21 at E
  have e_h : qfr wf_X12_sorted_b21 h h := qfr_rf
  obtain ⟨-, E⟩ := qck_el E
  rcases qif_el E with E | E
  · refine qup_f (Q := fun z => qfr wf_X12_sorted_b21 h ((Sum.elim (fun z : Int32 × Int32 × Int32 × Int32 × qa_M => z.2.2.2.2) (fun z : qa_M => z)) z)) E (fun rz E => ?_)
    exact qfr_tr e_h (qfr_sub (qsub_c (List.mem_of_getElem? (i := 0) rfl) (qsub_c (List.mem_of_getElem? (i := 1) rfl) (qsub_c (List.mem_of_getElem? (i := 2) rfl) qsub_nil))) (fr_X12_sorted_b48 x1 x2 x3 h E))
  · obtain ⟨-, E⟩ := qck_el E
    obtain ⟨v41, -, E⟩ := qbd_el E
    obtain ⟨v42, -, E⟩ := qbd_el E
    exact qsome_f (Q := fun z => qfr wf_X12_sorted_b21 h ((Sum.elim (fun z : Int32 × Int32 × Int32 × Int32 × qa_M => z.2.2.2.2) (fun z : qa_M => z)) z)) E e_h
theorem fr_X12_sorted_b21_loop (x1 : Int32) (x2 : Int32) (x3 : Int32) (x4 : Int32) (h : qa_M) {z : qa_M} (E : f_X12_sorted_b21_loop x1 x2 x3 x4 h = some z) : qfr wf_X12_sorted_b21 h ((fun z : qa_M => z) z) :=
  qlp_ind (fun sz : Int32 × Int32 × Int32 × Int32 × qa_M => qfr wf_X12_sorted_b21 (sz.2.2.2.2) ((fun z : qa_M => z) z)) (fun sz E => fr_X12_sorted_b21 sz.1 sz.2.1 sz.2.2.1 sz.2.2.2.1 sz.2.2.2.2 E) (fun sz sz2 E ih => qfr_tr (fr_X12_sorted_b21 sz.1 sz.2.1 sz.2.2.1 sz.2.2.2.1 sz.2.2.2.2 E) ih) (x1, x2, x3, x4, h) E
def w_X12_sorted : List (Nat × Nat) := [(119, 22), (119, 23), (132, 0), (138, 0)]
theorem fr_X12_sorted (h : qa_M) {z : qa_M} (E : m_X12_sorted h = some z) : qfr w_X12_sorted h ((fun z : qa_M => z) z) := by
  unfold m_X12_sorted at E
  have e_h : qfr w_X12_sorted h h := qfr_rf
  obtain ⟨h1, E0, E⟩ := qbv_el E
  have e_h1 := qfr_tr e_h (qfr_sub (qsub_c (List.mem_of_getElem? (i := 0) rfl) qsub_nil) (fr_X12_blanks h E0))
  obtain ⟨v8, -, E⟩ := qbd_el E
  obtain ⟨c12, h12, E0, E⟩ := qbn_el E
  have e_h12 := qfr_tr e_h1 (qfr_sub (qsub_c (List.mem_of_getElem? (i := 0) rfl) (qsub_c (List.mem_of_getElem? (i := 1) rfl) qsub_nil)) (fr_X12_amount (0 : Int32) (4 : Int32) h1 E0))
  obtain ⟨v15, -, E⟩ := qbd_el E
  obtain ⟨v17, -, E⟩ := qbd_el E
  obtain ⟨v19, -, E⟩ := qbd_el E
  exact qfr_tr e_h12 (qfr_sub (qsub_c (List.mem_of_getElem? (i := 1) rfl) (qsub_c (List.mem_of_getElem? (i := 2) rfl) (qsub_c (List.mem_of_getElem? (i := 3) rfl) qsub_nil))) (fr_X12_sorted_b21_loop v8 v15 v17 v19 h12 E))
def wf_X12_landClause_b33 : List (Nat × Nat) := [(119, 22), (119, 23), (132, 0), (133, 0), (134, 0), (135, 0), (136, 0), (137, 0), (138, 0)]
theorem fr_X12_landClause_b33 (x1 : Int32) (x2 : Int32) (x3 : Int32) (h : qa_M) {z : qa_M} (E : f_X12_landClause_b33 x1 x2 x3 h = some z) : qfr wf_X12_landClause_b33 h ((fun z : qa_M => z) z) := by
  unfold f_X12_landClause_b33 at E
  have e_h : qfr wf_X12_landClause_b33 h h := qfr_rf
  rcases qif_el E with E | E
  · obtain ⟨h41, E0, E⟩ := qbv_el E
    have e_h41 := qfr_tr e_h (qfr_sub (qsub_c (List.mem_of_getElem? (i := 1) rfl) qsub_nil) (fr_X12_fails (0 : Int32) x2 h E0))
    exact qsome_f (Q := fun z => qfr wf_X12_landClause_b33 h ((fun z : qa_M => z) z)) E e_h41
  · obtain ⟨c48, h48, E0, E⟩ := qbn_el E
    have e_h48 := qfr_tr e_h (qfr_sub qsub_nil (fr_X12_isFull x3 x1 h E0))
    rcases qif_el E with E | E
    · obtain ⟨h68, q_h68, E⟩ := qbd_el E
      have e_h68 := qfr_Ik q_h68 (List.mem_of_getElem? (i := 0) rfl) e_h48
      rcases qif_el E with E | E
      · obtain ⟨c84, h84, E0, E⟩ := qbn_el E
        have e_h84 := qfr_tr e_h68 (qfr_sub (qsub_c (List.mem_of_getElem? (i := 0) rfl) (qsub_c (List.mem_of_getElem? (i := 1) rfl) qsub_nil)) (fr_X12_amount (2 : Int32) (6 : Int32) h68 E0))
        obtain ⟨-, E⟩ := qck_el E
        obtain ⟨h87, q_h87, E⟩ := qbd_el E
        have e_h87 := qfr_I0 q_h87 (List.mem_of_getElem? (i := 2) rfl) e_h84
        obtain ⟨c97, h97, E0, E⟩ := qbn_el E
        have e_h97 := qfr_tr e_h87 (qfr_sub (qsub_c (List.mem_of_getElem? (i := 0) rfl) (qsub_c (List.mem_of_getElem? (i := 1) rfl) qsub_nil)) (fr_X12_amount (2 : Int32) (6 : Int32) h87 E0))
        obtain ⟨-, E⟩ := qck_el E
        obtain ⟨h100, q_h100, E⟩ := qbd_el E
        have e_h100 := qfr_I0 q_h100 (List.mem_of_getElem? (i := 2) rfl) e_h97
        exact qsome_f (Q := fun z => qfr wf_X12_landClause_b33 h ((fun z : qa_M => z) z)) E e_h100
      · rcases qif_el E with E | E
        · obtain ⟨h110, E0, E⟩ := qbv_el E
          have e_h110 := qfr_tr e_h68 (qfr_sub (qsub_c (List.mem_of_getElem? (i := 0) rfl) (qsub_c (List.mem_of_getElem? (i := 1) rfl) (qsub_c (List.mem_of_getElem? (i := 3) rfl) qsub_nil))) (fr_X12_woods h68 E0))
          exact qsome_f (Q := fun z => qfr wf_X12_landClause_b33 h ((fun z : qa_M => z) z)) E e_h110
        · rcases qif_el E with E | E
          · obtain ⟨h122, E0, E⟩ := qbv_el E
            have e_h122 := qfr_tr e_h68 (qfr_sub (qsub_c (List.mem_of_getElem? (i := 0) rfl) (qsub_c (List.mem_of_getElem? (i := 1) rfl) (qsub_c (List.mem_of_getElem? (i := 2) rfl) (qsub_c (List.mem_of_getElem? (i := 4) rfl) (qsub_c (List.mem_of_getElem? (i := 5) rfl) qsub_nil))))) (fr_X12_hill h68 E0))
            exact qsome_f (Q := fun z => qfr wf_X12_landClause_b33 h ((fun z : qa_M => z) z)) E e_h122
          · rcases qif_el E with E | E
            · obtain ⟨h134, E0, E⟩ := qbv_el E
              have e_h134 := qfr_tr e_h68 (qfr_sub (qsub_c (List.mem_of_getElem? (i := 0) rfl) (qsub_c (List.mem_of_getElem? (i := 1) rfl) (qsub_c (List.mem_of_getElem? (i := 2) rfl) (qsub_c (List.mem_of_getElem? (i := 6) rfl) (qsub_c (List.mem_of_getElem? (i := 7) rfl) qsub_nil))))) (fr_X12_road h68 E0))
              exact qsome_f (Q := fun z => qfr wf_X12_landClause_b33 h ((fun z : qa_M => z) z)) E e_h134
            · obtain ⟨h141, E0, E⟩ := qbv_el E
              have e_h141 := qfr_tr e_h68 (qfr_sub (qsub_c (List.mem_of_getElem? (i := 0) rfl) (qsub_c (List.mem_of_getElem? (i := 1) rfl) (qsub_c (List.mem_of_getElem? (i := 2) rfl) (qsub_c (List.mem_of_getElem? (i := 8) rfl) qsub_nil)))) (fr_X12_sorted h68 E0))
              exact qsome_f (Q := fun z => qfr wf_X12_landClause_b33 h ((fun z : qa_M => z) z)) E e_h141
    · obtain ⟨h57, E0, E⟩ := qbv_el E
      have e_h57 := qfr_tr e_h48 (qfr_sub (qsub_c (List.mem_of_getElem? (i := 1) rfl) qsub_nil) (fr_X12_fails (4 : Int32) x2 h48 E0))
      exact qsome_f (Q := fun z => qfr wf_X12_landClause_b33 h ((fun z : qa_M => z) z)) E e_h57
def wf_X12_landClause_b11 : List (Nat × Nat) := [(119, 22), (119, 23), (132, 0), (133, 0), (134, 0), (135, 0), (136, 0), (137, 0), (138, 0)]
theorem fr_X12_landClause_b11 (x1 : Int32) (x2 : Int32) (x3 : Int32) (h : qa_M) {z : ((Int32 × Int32 × Int32 × qa_M) ⊕ qa_M)} (E : f_X12_landClause_b11 x1 x2 x3 h = some z) : qfr wf_X12_landClause_b11 h ((Sum.elim (fun z : Int32 × Int32 × Int32 × qa_M => z.2.2.2) (fun z : qa_M => z)) z) := by
  unfold f_X12_landClause_b11 at E
  have e_h : qfr wf_X12_landClause_b11 h h := qfr_rf
  rcases qif_el E with E | E
  · refine qup_f (Q := fun z => qfr wf_X12_landClause_b11 h ((Sum.elim (fun z : Int32 × Int32 × Int32 × qa_M => z.2.2.2) (fun z : qa_M => z)) z)) E (fun rz E => ?_)
    exact qfr_tr e_h (qfr_sub (qsub_c (List.mem_of_getElem? (i := 0) rfl) (qsub_c (List.mem_of_getElem? (i := 1) rfl) (qsub_c (List.mem_of_getElem? (i := 2) rfl) (qsub_c (List.mem_of_getElem? (i := 3) rfl) (qsub_c (List.mem_of_getElem? (i := 4) rfl) (qsub_c (List.mem_of_getElem? (i := 5) rfl) (qsub_c (List.mem_of_getElem? (i := 6) rfl) (qsub_c (List.mem_of_getElem? (i := 7) rfl) (qsub_c (List.mem_of_getElem? (i := 8) rfl) qsub_nil))))))))) (fr_X12_landClause_b33 x1 x2 x3 h E))
  · obtain ⟨c18, h18, E0, E⟩ := qbn_el E
    have e_h18 := qfr_tr e_h (qfr_sub qsub_nil (fr_X12_landWord x3 h E0))
    obtain ⟨-, E⟩ := qpr_el E
    obtain ⟨c21, h21, E0, E⟩ := qbn_el E
    have e_h21 := qfr_tr e_h18 (qfr_sub qsub_nil (fr_X12_stood c18 h18 E0))
    rcases qif_el E with E | E
    · obtain ⟨v27, -, E⟩ := qbd_el E
      exact qsome_f (Q := fun z => qfr wf_X12_landClause_b11 h ((Sum.elim (fun z : Int32 × Int32 × Int32 × qa_M => z.2.2.2) (fun z : qa_M => z)) z)) E e_h21
    · refine qup_f (Q := fun z => qfr wf_X12_landClause_b11 h ((Sum.elim (fun z : Int32 × Int32 × Int32 × qa_M => z.2.2.2) (fun z : qa_M => z)) z)) E (fun rz E => ?_)
      exact qfr_tr e_h21 (qfr_sub (qsub_c (List.mem_of_getElem? (i := 0) rfl) (qsub_c (List.mem_of_getElem? (i := 1) rfl) (qsub_c (List.mem_of_getElem? (i := 2) rfl) (qsub_c (List.mem_of_getElem? (i := 3) rfl) (qsub_c (List.mem_of_getElem? (i := 4) rfl) (qsub_c (List.mem_of_getElem? (i := 5) rfl) (qsub_c (List.mem_of_getElem? (i := 6) rfl) (qsub_c (List.mem_of_getElem? (i := 7) rfl) (qsub_c (List.mem_of_getElem? (i := 8) rfl) qsub_nil))))))))) (fr_X12_landClause_b33 x1 x2 x3 h21 E))
theorem fr_X12_landClause_b11_loop (x1 : Int32) (x2 : Int32) (x3 : Int32) (h : qa_M) {z : qa_M} (E : f_X12_landClause_b11_loop x1 x2 x3 h = some z) : qfr wf_X12_landClause_b11 h ((fun z : qa_M => z) z) :=
  qlp_ind (fun sz : Int32 × Int32 × Int32 × qa_M => qfr wf_X12_landClause_b11 (sz.2.2.2) ((fun z : qa_M => z) z)) (fun sz E => fr_X12_landClause_b11 sz.1 sz.2.1 sz.2.2.1 sz.2.2.2 E) (fun sz sz2 E ih => qfr_tr (fr_X12_landClause_b11 sz.1 sz.2.1 sz.2.2.1 sz.2.2.2 E) ih) (x1, x2, x3, h) E
def w_X12_landClause : List (Nat × Nat) := [(119, 22), (119, 23), (132, 0), (133, 0), (134, 0), (135, 0), (136, 0), (137, 0), (138, 0)]
theorem fr_X12_landClause (x1 : Int32) (h : qa_M) {z : qa_M} (E : m_X12_landClause x1 h = some z) : qfr w_X12_landClause h ((fun z : qa_M => z) z) := by
  unfold m_X12_landClause at E
  have e_h : qfr w_X12_landClause h h := qfr_rf
  obtain ⟨h1, E0, E⟩ := qbv_el E
  have e_h1 := qfr_tr e_h (qfr_sub (qsub_c (List.mem_of_getElem? (i := 0) rfl) qsub_nil) (fr_X12_blanks h E0))
  obtain ⟨v8, -, E⟩ := qbd_el E
  obtain ⟨v10, -, E⟩ := qbd_el E
  exact qfr_tr e_h1 (qfr_sub (qsub_c (List.mem_of_getElem? (i := 0) rfl) (qsub_c (List.mem_of_getElem? (i := 1) rfl) (qsub_c (List.mem_of_getElem? (i := 2) rfl) (qsub_c (List.mem_of_getElem? (i := 3) rfl) (qsub_c (List.mem_of_getElem? (i := 4) rfl) (qsub_c (List.mem_of_getElem? (i := 5) rfl) (qsub_c (List.mem_of_getElem? (i := 6) rfl) (qsub_c (List.mem_of_getElem? (i := 7) rfl) (qsub_c (List.mem_of_getElem? (i := 8) rfl) qsub_nil))))))))) (fr_X12_landClause_b11_loop x1 v8 v10 h1 E))
def wf_X12_goesOn_b63 : List (Nat × Nat) := [(119, 22)]
theorem fr_X12_goesOn_b63 (s0 : Int32) (h : qa_M) {z : (Int32 × qa_M)} (E : f_X12_goesOn_b63 s0 h = some z) : qfr wf_X12_goesOn_b63 h ((fun z : Int32 × qa_M => z.2) z) := by
  unfold f_X12_goesOn_b63 at E
  have e_h : qfr wf_X12_goesOn_b63 h h := qfr_rf
  obtain ⟨v63, -, E⟩ := qbd_el E
  obtain ⟨h71, q_h71, E⟩ := qbd_el E
  have e_h71 := qfr_Ik q_h71 (List.mem_of_getElem? (i := 0) rfl) e_h
  obtain ⟨-, E⟩ := qpr_el E
  exact qsome_f (Q := fun z => qfr wf_X12_goesOn_b63 h ((fun z : Int32 × qa_M => z.2) z)) E e_h71
def wf_X12_goesOn_b62 : List (Nat × Nat) := [(119, 22)]
theorem fr_X12_goesOn_b62 (h : qa_M) {z : (Int32 × qa_M)} (E : f_X12_goesOn_b62 h = some z) : qfr wf_X12_goesOn_b62 h ((fun z : Int32 × qa_M => z.2) z) := by
  unfold f_X12_goesOn_b62 at E
  have e_h : qfr wf_X12_goesOn_b62 h h := qfr_rf
  exact qfr_tr e_h (qfr_sub (qsub_c (List.mem_of_getElem? (i := 0) rfl) qsub_nil) (fr_X12_goesOn_b63 (0 : Int32) h E))
def wf_X12_goesOn_b40 : List (Nat × Nat) := [(119, 22)]
theorem fr_X12_goesOn_b40 (h : qa_M) {z : (Int32 × qa_M)} (E : f_X12_goesOn_b40 h = some z) : qfr wf_X12_goesOn_b40 h ((fun z : Int32 × qa_M => z.2) z) := by
  unfold f_X12_goesOn_b40 at E
  have e_h : qfr wf_X12_goesOn_b40 h h := qfr_rf
  rcases qif_el E with E | E
  · rcases qif_el E with E | E
    · exact qfr_tr e_h (qfr_sub (qsub_c (List.mem_of_getElem? (i := 0) rfl) qsub_nil) (fr_X12_goesOn_b62 h E))
    · exact qfr_tr e_h (qfr_sub (qsub_c (List.mem_of_getElem? (i := 0) rfl) qsub_nil) (fr_X12_goesOn_b63 (1 : Int32) h E))
  · exact qfr_tr e_h (qfr_sub (qsub_c (List.mem_of_getElem? (i := 0) rfl) qsub_nil) (fr_X12_goesOn_b62 h E))
def w_X12_goesOn : List (Nat × Nat) := [(119, 22), (119, 23)]
theorem fr_X12_goesOn (h : qa_M) {z : (Int32 × qa_M)} (E : m_X12_goesOn h = some z) : qfr w_X12_goesOn h ((fun z : Int32 × qa_M => z.2) z) := by
  unfold m_X12_goesOn at E
  have e_h : qfr w_X12_goesOn h h := qfr_rf
  obtain ⟨h1, E0, E⟩ := qbv_el E
  have e_h1 := qfr_tr e_h (qfr_sub (qsub_c (List.mem_of_getElem? (i := 0) rfl) qsub_nil) (fr_X12_blanks h E0))
  rcases qif_el E with E | E
  · rcases qif_el E with E | E
    · exact qfr_tr e_h1 (qfr_sub (qsub_c (List.mem_of_getElem? (i := 0) rfl) qsub_nil) (fr_X12_goesOn_b40 h1 E))
    · obtain ⟨c23, h23, E0, E⟩ := qbn_el E
      have e_h23 := qfr_tr e_h1 (qfr_sub qsub_nil (fr_X12_sign h1 E0))
      rcases qif_el E with E | E
      · exact qfr_tr e_h23 (qfr_sub (qsub_c (List.mem_of_getElem? (i := 0) rfl) qsub_nil) (fr_X12_goesOn_b40 h23 E))
      · obtain ⟨h37, E0, E⟩ := qbv_el E
        have e_h37 := qfr_tr e_h23 (qfr_sub (qsub_c (List.mem_of_getElem? (i := 1) rfl) qsub_nil) (fr_X12_fails (0 : Int32) (h23.1 119 21) h23 E0))
        exact qfr_tr e_h37 (qfr_sub (qsub_c (List.mem_of_getElem? (i := 0) rfl) qsub_nil) (fr_X12_goesOn_b40 h37 E))
  · exact qfr_tr e_h1 (qfr_sub (qsub_c (List.mem_of_getElem? (i := 0) rfl) qsub_nil) (fr_X12_goesOn_b40 h1 E))
def wf_X12_lay_b2 (a1 : Nat) : List (Nat × Nat) := [(a1, 0)]
theorem fr_X12_lay_b2 (a0 : Nat) (a1 : Nat) (x2 : Int32) (h : qa_M) {z : ((Int32 × qa_M) ⊕ qa_M)} (E : f_X12_lay_b2 a0 a1 x2 h = some z) : qfr (wf_X12_lay_b2 a1) h ((Sum.elim (fun z : Int32 × qa_M => z.2) (fun z : qa_M => z)) z) := by
  unfold f_X12_lay_b2 at E
  have e_h : qfr (wf_X12_lay_b2 a1) h h := qfr_rf
  obtain ⟨n4, -, E⟩ := qal_el E
  rcases qif_el E with E | E
  · refine qup_f (Q := fun z => qfr (wf_X12_lay_b2 a1) h ((Sum.elim (fun z : Int32 × qa_M => z.2) (fun z : qa_M => z)) z)) E (fun rz E => ?_)
    exact qsome_f (Q := fun z => qfr (wf_X12_lay_b2 a1) h ((fun z : qa_M => z) z)) E e_h
  · obtain ⟨n12, -, E⟩ := qal_el E
    obtain ⟨-, E⟩ := qck_el E
    obtain ⟨n13, -, E⟩ := qal_el E
    obtain ⟨-, E⟩ := qck_el E
    obtain ⟨h13, q_h13, E⟩ := qbd_el E
    have e_h13 := qfr_I0 q_h13 (List.mem_of_getElem? (i := 0) rfl) e_h
    obtain ⟨v14, -, E⟩ := qbd_el E
    exact qsome_f (Q := fun z => qfr (wf_X12_lay_b2 a1) h ((Sum.elim (fun z : Int32 × qa_M => z.2) (fun z : qa_M => z)) z)) E e_h13
theorem fr_X12_lay_b2_loop (a0 : Nat) (a1 : Nat) (x2 : Int32) (h : qa_M) {z : qa_M} (E : f_X12_lay_b2_loop a0 a1 x2 h = some z) : qfr (wf_X12_lay_b2 a1) h ((fun z : qa_M => z) z) :=
  qlp_ind (fun sz : Int32 × qa_M => qfr (wf_X12_lay_b2 a1) (sz.2) ((fun z : qa_M => z) z)) (fun sz E => fr_X12_lay_b2 a0 a1 sz.1 sz.2 E) (fun sz sz2 E ih => qfr_tr (fr_X12_lay_b2 a0 a1 sz.1 sz.2 E) ih) (x2, h) E
def w_X12_lay (a1 : Nat) : List (Nat × Nat) := [(a1, 0)]
theorem fr_X12_lay (a0 : Nat) (a1 : Nat) (h : qa_M) {z : qa_M} (E : m_X12_lay a0 a1 h = some z) : qfr (w_X12_lay a1) h ((fun z : qa_M => z) z) := by
  unfold m_X12_lay at E
  have e_h : qfr (w_X12_lay a1) h h := qfr_rf
  obtain ⟨v1, -, E⟩ := qbd_el E
  exact qfr_tr e_h (qfr_sub (qsub_c (List.mem_of_getElem? (i := 0) rfl) qsub_nil) (fr_X12_lay_b2_loop a0 a1 v1 h E))
def wf_X12_land_b69 : List (Nat × Nat) := [(119, 21), (120, 0), (121, 0), (122, 0), (123, 0), (124, 0), (125, 0), (126, 0)]
theorem fr_X12_land_b69 (h : qa_M) {z : (Int32 × qa_M)} (E : f_X12_land_b69 h = some z) : qfr wf_X12_land_b69 h ((fun z : Int32 × qa_M => z.2) z) := by
  unfold f_X12_land_b69 at E
  have e_h : qfr wf_X12_land_b69 h h := qfr_rf
  obtain ⟨h71, q_h71, E⟩ := qbd_el E
  have e_h71 := qfr_Ik q_h71 (List.mem_of_getElem? (i := 0) rfl) e_h
  rcases qif_el E with E | E
  · obtain ⟨h97, E0, E⟩ := qbv_el E
    have e_h97 := qfr_tr e_h71 (qfr_sub (qsub_c (List.mem_of_getElem? (i := 1) rfl) qsub_nil) (fr_X12_lay 132 120 h71 E0))
    obtain ⟨h108, E0, E⟩ := qbv_el E
    have e_h108 := qfr_tr e_h97 (qfr_sub (qsub_c (List.mem_of_getElem? (i := 2) rfl) qsub_nil) (fr_X12_lay 133 121 h97 E0))
    obtain ⟨h119, E0, E⟩ := qbv_el E
    have e_h119 := qfr_tr e_h108 (qfr_sub (qsub_c (List.mem_of_getElem? (i := 3) rfl) qsub_nil) (fr_X12_lay 134 122 h108 E0))
    obtain ⟨h130, E0, E⟩ := qbv_el E
    have e_h130 := qfr_tr e_h119 (qfr_sub (qsub_c (List.mem_of_getElem? (i := 4) rfl) qsub_nil) (fr_X12_lay 135 123 h119 E0))
    obtain ⟨h141, E0, E⟩ := qbv_el E
    have e_h141 := qfr_tr e_h130 (qfr_sub (qsub_c (List.mem_of_getElem? (i := 5) rfl) qsub_nil) (fr_X12_lay 136 124 h130 E0))
    obtain ⟨h152, E0, E⟩ := qbv_el E
    have e_h152 := qfr_tr e_h141 (qfr_sub (qsub_c (List.mem_of_getElem? (i := 6) rfl) qsub_nil) (fr_X12_lay 137 125 h141 E0))
    obtain ⟨h163, E0, E⟩ := qbv_el E
    have e_h163 := qfr_tr e_h152 (qfr_sub (qsub_c (List.mem_of_getElem? (i := 7) rfl) qsub_nil) (fr_X12_lay 138 126 h152 E0))
    obtain ⟨-, E⟩ := qck_el E
    obtain ⟨h172, q_h172, E⟩ := qbd_el E
    have e_h172 := qfr_I0 q_h172 (List.mem_of_getElem? (i := 1) rfl) e_h163
    obtain ⟨-, E⟩ := qck_el E
    exact qsome_f (Q := fun z => qfr wf_X12_land_b69 h ((fun z : Int32 × qa_M => z.2) z)) E e_h172
  · exact qsome_f (Q := fun z => qfr wf_X12_land_b69 h ((fun z : Int32 × qa_M => z.2) z)) E e_h71
def wf_X12_land_b49 : List (Nat × Nat) := [(119, 21), (119, 22), (119, 23), (120, 0), (121, 0), (122, 0), (123, 0), (124, 0), (125, 0), (126, 0), (132, 0), (133, 0), (134, 0), (135, 0), (136, 0), (137, 0), (138, 0)]
theorem fr_X12_land_b49 (x1 : Int32) (x2 : Int32) (h : qa_M) {z : ((Int32 × Int32 × qa_M) ⊕ (Int32 × qa_M))} (E : f_X12_land_b49 x1 x2 h = some z) : qfr wf_X12_land_b49 h ((Sum.elim (fun z : Int32 × Int32 × qa_M => z.2.2) (fun z : Int32 × qa_M => z.2)) z) := by
  unfold f_X12_land_b49 at E
  have e_h : qfr wf_X12_land_b49 h h := qfr_rf
  rcases qif_el E with E | E
  · refine qup_f (Q := fun z => qfr wf_X12_land_b49 h ((Sum.elim (fun z : Int32 × Int32 × qa_M => z.2.2) (fun z : Int32 × qa_M => z.2)) z)) E (fun rz E => ?_)
    exact qfr_tr e_h (qfr_sub (qsub_c (List.mem_of_getElem? (i := 0) rfl) (qsub_c (List.mem_of_getElem? (i := 3) rfl) (qsub_c (List.mem_of_getElem? (i := 4) rfl) (qsub_c (List.mem_of_getElem? (i := 5) rfl) (qsub_c (List.mem_of_getElem? (i := 6) rfl) (qsub_c (List.mem_of_getElem? (i := 7) rfl) (qsub_c (List.mem_of_getElem? (i := 8) rfl) (qsub_c (List.mem_of_getElem? (i := 9) rfl) qsub_nil)))))))) (fr_X12_land_b69 h E))
  · obtain ⟨h55, E0, E⟩ := qbv_el E
    have e_h55 := qfr_tr e_h (qfr_sub (qsub_c (List.mem_of_getElem? (i := 1) rfl) (qsub_c (List.mem_of_getElem? (i := 2) rfl) (qsub_c (List.mem_of_getElem? (i := 10) rfl) (qsub_c (List.mem_of_getElem? (i := 11) rfl) (qsub_c (List.mem_of_getElem? (i := 12) rfl) (qsub_c (List.mem_of_getElem? (i := 13) rfl) (qsub_c (List.mem_of_getElem? (i := 14) rfl) (qsub_c (List.mem_of_getElem? (i := 15) rfl) (qsub_c (List.mem_of_getElem? (i := 16) rfl) qsub_nil))))))))) (fr_X12_landClause x1 h E0))
    obtain ⟨v58, -, E⟩ := qbd_el E
    obtain ⟨c62, h62, E0, E⟩ := qbn_el E
    have e_h62 := qfr_tr e_h55 (qfr_sub (qsub_c (List.mem_of_getElem? (i := 1) rfl) (qsub_c (List.mem_of_getElem? (i := 2) rfl) qsub_nil)) (fr_X12_goesOn h55 E0))
    obtain ⟨v65, -, E⟩ := qbd_el E
    exact qsome_f (Q := fun z => qfr wf_X12_land_b49 h ((Sum.elim (fun z : Int32 × Int32 × qa_M => z.2.2) (fun z : Int32 × qa_M => z.2)) z)) E e_h62
theorem fr_X12_land_b49_loop (x1 : Int32) (x2 : Int32) (h : qa_M) {z : (Int32 × qa_M)} (E : f_X12_land_b49_loop x1 x2 h = some z) : qfr wf_X12_land_b49 h ((fun z : Int32 × qa_M => z.2) z) :=
  qlp_ind (fun sz : Int32 × Int32 × qa_M => qfr wf_X12_land_b49 (sz.2.2) ((fun z : Int32 × qa_M => z.2) z)) (fun sz E => fr_X12_land_b49 sz.1 sz.2.1 sz.2.2 E) (fun sz sz2 E ih => qfr_tr (fr_X12_land_b49 sz.1 sz.2.1 sz.2.2 E) ih) (x1, x2, h) E
def wf_X12_land_b45 : List (Nat × Nat) := [(119, 21), (119, 22), (119, 23), (120, 0), (121, 0), (122, 0), (123, 0), (124, 0), (125, 0), (126, 0), (132, 0), (133, 0), (134, 0), (135, 0), (136, 0), (137, 0), (138, 0)]
theorem fr_X12_land_b45 (h : qa_M) {z : (Int32 × qa_M)} (E : f_X12_land_b45 h = some z) : qfr wf_X12_land_b45 h ((fun z : Int32 × qa_M => z.2) z) := by
  unfold f_X12_land_b45 at E
  have e_h : qfr wf_X12_land_b45 h h := qfr_rf
  obtain ⟨v46, -, E⟩ := qbd_el E
  obtain ⟨v48, -, E⟩ := qbd_el E
  exact qfr_tr e_h (qfr_sub (qsub_c (List.mem_of_getElem? (i := 0) rfl) (qsub_c (List.mem_of_getElem? (i := 1) rfl) (qsub_c (List.mem_of_getElem? (i := 2) rfl) (qsub_c (List.mem_of_getElem? (i := 3) rfl) (qsub_c (List.mem_of_getElem? (i := 4) rfl) (qsub_c (List.mem_of_getElem? (i := 5) rfl) (qsub_c (List.mem_of_getElem? (i := 6) rfl) (qsub_c (List.mem_of_getElem? (i := 7) rfl) (qsub_c (List.mem_of_getElem? (i := 8) rfl) (qsub_c (List.mem_of_getElem? (i := 9) rfl) (qsub_c (List.mem_of_getElem? (i := 10) rfl) (qsub_c (List.mem_of_getElem? (i := 11) rfl) (qsub_c (List.mem_of_getElem? (i := 12) rfl) (qsub_c (List.mem_of_getElem? (i := 13) rfl) (qsub_c (List.mem_of_getElem? (i := 14) rfl) (qsub_c (List.mem_of_getElem? (i := 15) rfl) (qsub_c (List.mem_of_getElem? (i := 16) rfl) qsub_nil))))))))))))))))) (fr_X12_land_b49_loop v46 v48 h E))
def wf_X12_land_b26 : List (Nat × Nat) := [(119, 21), (119, 22), (119, 23), (120, 0), (121, 0), (122, 0), (123, 0), (124, 0), (125, 0), (126, 0), (132, 0), (133, 0), (134, 0), (135, 0), (136, 0), (137, 0), (138, 0)]
theorem fr_X12_land_b26 (x1 : Int32) (h : qa_M) {z : ((Int32 × qa_M) ⊕ (Int32 × qa_M))} (E : f_X12_land_b26 x1 h = some z) : qfr wf_X12_land_b26 h ((Sum.elim (fun z : Int32 × qa_M => z.2) (fun z : Int32 × qa_M => z.2)) z) := by
  unfold f_X12_land_b26 at E
  have e_h : qfr wf_X12_land_b26 h h := qfr_rf
  rcases qif_el E with E | E
  · refine qup_f (Q := fun z => qfr wf_X12_land_b26 h ((Sum.elim (fun z : Int32 × qa_M => z.2) (fun z : Int32 × qa_M => z.2)) z)) E (fun rz E => ?_)
    exact qfr_tr e_h (qfr_sub (qsub_c (List.mem_of_getElem? (i := 0) rfl) (qsub_c (List.mem_of_getElem? (i := 1) rfl) (qsub_c (List.mem_of_getElem? (i := 2) rfl) (qsub_c (List.mem_of_getElem? (i := 3) rfl) (qsub_c (List.mem_of_getElem? (i := 4) rfl) (qsub_c (List.mem_of_getElem? (i := 5) rfl) (qsub_c (List.mem_of_getElem? (i := 6) rfl) (qsub_c (List.mem_of_getElem? (i := 7) rfl) (qsub_c (List.mem_of_getElem? (i := 8) rfl) (qsub_c (List.mem_of_getElem? (i := 9) rfl) (qsub_c (List.mem_of_getElem? (i := 10) rfl) (qsub_c (List.mem_of_getElem? (i := 11) rfl) (qsub_c (List.mem_of_getElem? (i := 12) rfl) (qsub_c (List.mem_of_getElem? (i := 13) rfl) (qsub_c (List.mem_of_getElem? (i := 14) rfl) (qsub_c (List.mem_of_getElem? (i := 15) rfl) (qsub_c (List.mem_of_getElem? (i := 16) rfl) qsub_nil))))))))))))))))) (fr_X12_land_b45 h E))
  · obtain ⟨-, E⟩ := qck_el E
    obtain ⟨h38, q_h38, E⟩ := qbd_el E
    have e_h38 := qfr_I0 q_h38 (List.mem_of_getElem? (i := 11) rfl) e_h
    obtain ⟨v39, -, E⟩ := qbd_el E
    exact qsome_f (Q := fun z => qfr wf_X12_land_b26 h ((Sum.elim (fun z : Int32 × qa_M => z.2) (fun z : Int32 × qa_M => z.2)) z)) E e_h38
theorem fr_X12_land_b26_loop (x1 : Int32) (h : qa_M) {z : (Int32 × qa_M)} (E : f_X12_land_b26_loop x1 h = some z) : qfr wf_X12_land_b26 h ((fun z : Int32 × qa_M => z.2) z) :=
  qlp_ind (fun sz : Int32 × qa_M => qfr wf_X12_land_b26 (sz.2) ((fun z : Int32 × qa_M => z.2) z)) (fun sz E => fr_X12_land_b26 sz.1 sz.2 E) (fun sz sz2 E ih => qfr_tr (fr_X12_land_b26 sz.1 sz.2 E) ih) (x1, h) E
def wf_X12_land_b24 : List (Nat × Nat) := [(119, 21), (119, 22), (119, 23), (120, 0), (121, 0), (122, 0), (123, 0), (124, 0), (125, 0), (126, 0), (132, 0), (133, 0), (134, 0), (135, 0), (136, 0), (137, 0), (138, 0)]
theorem fr_X12_land_b24 (h : qa_M) {z : (Int32 × qa_M)} (E : f_X12_land_b24 h = some z) : qfr wf_X12_land_b24 h ((fun z : Int32 × qa_M => z.2) z) := by
  unfold f_X12_land_b24 at E
  have e_h : qfr wf_X12_land_b24 h h := qfr_rf
  obtain ⟨v25, -, E⟩ := qbd_el E
  exact qfr_tr e_h (qfr_sub (qsub_c (List.mem_of_getElem? (i := 0) rfl) (qsub_c (List.mem_of_getElem? (i := 1) rfl) (qsub_c (List.mem_of_getElem? (i := 2) rfl) (qsub_c (List.mem_of_getElem? (i := 3) rfl) (qsub_c (List.mem_of_getElem? (i := 4) rfl) (qsub_c (List.mem_of_getElem? (i := 5) rfl) (qsub_c (List.mem_of_getElem? (i := 6) rfl) (qsub_c (List.mem_of_getElem? (i := 7) rfl) (qsub_c (List.mem_of_getElem? (i := 8) rfl) (qsub_c (List.mem_of_getElem? (i := 9) rfl) (qsub_c (List.mem_of_getElem? (i := 10) rfl) (qsub_c (List.mem_of_getElem? (i := 11) rfl) (qsub_c (List.mem_of_getElem? (i := 12) rfl) (qsub_c (List.mem_of_getElem? (i := 13) rfl) (qsub_c (List.mem_of_getElem? (i := 14) rfl) (qsub_c (List.mem_of_getElem? (i := 15) rfl) (qsub_c (List.mem_of_getElem? (i := 16) rfl) qsub_nil))))))))))))))))) (fr_X12_land_b26_loop v25 h E))
def wf_X12_land_b6 : List (Nat × Nat) := [(119, 21), (119, 22), (119, 23), (120, 0), (121, 0), (122, 0), (123, 0), (124, 0), (125, 0), (126, 0), (132, 0), (133, 0), (134, 0), (135, 0), (136, 0), (137, 0), (138, 0)]
theorem fr_X12_land_b6 (x1 : Int32) (h : qa_M) {z : ((Int32 × qa_M) ⊕ (Int32 × qa_M))} (E : f_X12_land_b6 x1 h = some z) : qfr wf_X12_land_b6 h ((Sum.elim (fun z : Int32 × qa_M => z.2) (fun z : Int32 × qa_M => z.2)) z) := by
  unfold f_X12_land_b6 at E
  have e_h : qfr wf_X12_land_b6 h h := qfr_rf
  rcases qif_el E with E | E
  · refine qup_f (Q := fun z => qfr wf_X12_land_b6 h ((Sum.elim (fun z : Int32 × qa_M => z.2) (fun z : Int32 × qa_M => z.2)) z)) E (fun rz E => ?_)
    exact qfr_tr e_h (qfr_sub (qsub_c (List.mem_of_getElem? (i := 0) rfl) (qsub_c (List.mem_of_getElem? (i := 1) rfl) (qsub_c (List.mem_of_getElem? (i := 2) rfl) (qsub_c (List.mem_of_getElem? (i := 3) rfl) (qsub_c (List.mem_of_getElem? (i := 4) rfl) (qsub_c (List.mem_of_getElem? (i := 5) rfl) (qsub_c (List.mem_of_getElem? (i := 6) rfl) (qsub_c (List.mem_of_getElem? (i := 7) rfl) (qsub_c (List.mem_of_getElem? (i := 8) rfl) (qsub_c (List.mem_of_getElem? (i := 9) rfl) (qsub_c (List.mem_of_getElem? (i := 10) rfl) (qsub_c (List.mem_of_getElem? (i := 11) rfl) (qsub_c (List.mem_of_getElem? (i := 12) rfl) (qsub_c (List.mem_of_getElem? (i := 13) rfl) (qsub_c (List.mem_of_getElem? (i := 14) rfl) (qsub_c (List.mem_of_getElem? (i := 15) rfl) (qsub_c (List.mem_of_getElem? (i := 16) rfl) qsub_nil))))))))))))))))) (fr_X12_land_b24 h E))
  · obtain ⟨-, E⟩ := qck_el E
    obtain ⟨h17, q_h17, E⟩ := qbd_el E
    have e_h17 := qfr_I0 q_h17 (List.mem_of_getElem? (i := 10) rfl) e_h
    obtain ⟨v18, -, E⟩ := qbd_el E
    exact qsome_f (Q := fun z => qfr wf_X12_land_b6 h ((Sum.elim (fun z : Int32 × qa_M => z.2) (fun z : Int32 × qa_M => z.2)) z)) E e_h17
theorem fr_X12_land_b6_loop (x1 : Int32) (h : qa_M) {z : (Int32 × qa_M)} (E : f_X12_land_b6_loop x1 h = some z) : qfr wf_X12_land_b6 h ((fun z : Int32 × qa_M => z.2) z) :=
  qlp_ind (fun sz : Int32 × qa_M => qfr wf_X12_land_b6 (sz.2) ((fun z : Int32 × qa_M => z.2) z)) (fun sz E => fr_X12_land_b6 sz.1 sz.2 E) (fun sz sz2 E ih => qfr_tr (fr_X12_land_b6 sz.1 sz.2 E) ih) (x1, h) E
def w_X12_land : List (Nat × Nat) := [(119, 21), (119, 22), (119, 23), (119, 26), (119, 27), (119, 28), (120, 0), (121, 0), (122, 0), (123, 0), (124, 0), (125, 0), (126, 0), (132, 0), (133, 0), (134, 0), (135, 0), (136, 0), (137, 0), (138, 0)]
theorem fr_X12_land (h : qa_M) {z : (Int32 × qa_M)} (E : m_X12_land h = some z) : qfr w_X12_land h ((fun z : Int32 × qa_M => z.2) z) := by
  unfold m_X12_land at E
  have e_h : qfr w_X12_land h h := qfr_rf
  obtain ⟨h1, E0, E⟩ := qbv_el E
  have e_h1 := qfr_tr e_h (qfr_sub (qsub_c (List.mem_of_getElem? (i := 1) rfl) (qsub_c (List.mem_of_getElem? (i := 2) rfl) (qsub_c (List.mem_of_getElem? (i := 3) rfl) (qsub_c (List.mem_of_getElem? (i := 4) rfl) (qsub_c (List.mem_of_getElem? (i := 5) rfl) qsub_nil))))) (fr_X12_starts h E0))
  obtain ⟨v5, -, E⟩ := qbd_el E
  exact qfr_tr e_h1 (qfr_sub (qsub_c (List.mem_of_getElem? (i := 0) rfl) (qsub_c (List.mem_of_getElem? (i := 1) rfl) (qsub_c (List.mem_of_getElem? (i := 2) rfl) (qsub_c (List.mem_of_getElem? (i := 6) rfl) (qsub_c (List.mem_of_getElem? (i := 7) rfl) (qsub_c (List.mem_of_getElem? (i := 8) rfl) (qsub_c (List.mem_of_getElem? (i := 9) rfl) (qsub_c (List.mem_of_getElem? (i := 10) rfl) (qsub_c (List.mem_of_getElem? (i := 11) rfl) (qsub_c (List.mem_of_getElem? (i := 12) rfl) (qsub_c (List.mem_of_getElem? (i := 13) rfl) (qsub_c (List.mem_of_getElem? (i := 14) rfl) (qsub_c (List.mem_of_getElem? (i := 15) rfl) (qsub_c (List.mem_of_getElem? (i := 16) rfl) (qsub_c (List.mem_of_getElem? (i := 17) rfl) (qsub_c (List.mem_of_getElem? (i := 18) rfl) (qsub_c (List.mem_of_getElem? (i := 19) rfl) qsub_nil))))))))))))))))) (fr_X12_land_b6_loop v5 h1 E))
def wf_X12_opens_b40 : List (Nat × Nat) := [(119, 29), (148, 0)]
theorem fr_X12_opens_b40 (x1 : Int32) (h : qa_M) {z : qa_M} (E : f_X12_opens_b40 x1 h = some z) : qfr wf_X12_opens_b40 h ((fun z : qa_M => z) z) := by
  unfold f_X12_opens_b40 at E
  have e_h : qfr wf_X12_opens_b40 h h := qfr_rf
  obtain ⟨-, E⟩ := qck_el E
  obtain ⟨h49, q_h49, E⟩ := qbd_el E
  have e_h49 := qfr_I0 q_h49 (List.mem_of_getElem? (i := 1) rfl) e_h
  obtain ⟨h57, q_h57, E⟩ := qbd_el E
  have e_h57 := qfr_Ik q_h57 (List.mem_of_getElem? (i := 0) rfl) e_h49
  exact qsome_f (Q := fun z => qfr wf_X12_opens_b40 h ((fun z : qa_M => z) z)) E e_h57
def wf_X12_opens_b30 : List (Nat × Nat) := [(119, 27), (119, 29), (148, 0)]
theorem fr_X12_opens_b30 (x1 : Int32) (h : qa_M) {z : qa_M} (E : f_X12_opens_b30 x1 h = some z) : qfr wf_X12_opens_b30 h ((fun z : qa_M => z) z) := by
  unfold f_X12_opens_b30 at E
  have e_h : qfr wf_X12_opens_b30 h h := qfr_rf
  obtain ⟨h37, q_h37, E⟩ := qbd_el E
  have e_h37 := qfr_Ik q_h37 (List.mem_of_getElem? (i := 0) rfl) e_h
  exact qfr_tr e_h37 (qfr_sub (qsub_c (List.mem_of_getElem? (i := 1) rfl) (qsub_c (List.mem_of_getElem? (i := 2) rfl) qsub_nil)) (fr_X12_opens_b40 x1 h37 E))
def wf_X12_opens_b12 : List (Nat × Nat) := [(119, 23), (119, 27), (119, 29), (148, 0)]
theorem fr_X12_opens_b12 (x1 : Int32) (h : qa_M) {z : qa_M} (E : f_X12_opens_b12 x1 h = some z) : qfr wf_X12_opens_b12 h ((fun z : qa_M => z) z) := by
  unfold f_X12_opens_b12 at E
  have e_h : qfr wf_X12_opens_b12 h h := qfr_rf
  rcases qif_el E with E | E
  · obtain ⟨h27, E0, E⟩ := qbv_el E
    have e_h27 := qfr_tr e_h (qfr_sub (qsub_c (List.mem_of_getElem? (i := 0) rfl) qsub_nil) (fr_X12_fails (2 : Int32) (h.1 119 21) h E0))
    exact qfr_tr e_h27 (qfr_sub (qsub_c (List.mem_of_getElem? (i := 1) rfl) (qsub_c (List.mem_of_getElem? (i := 2) rfl) (qsub_c (List.mem_of_getElem? (i := 3) rfl) qsub_nil))) (fr_X12_opens_b30 x1 h27 E))
  · exact qfr_tr e_h (qfr_sub (qsub_c (List.mem_of_getElem? (i := 1) rfl) (qsub_c (List.mem_of_getElem? (i := 2) rfl) (qsub_c (List.mem_of_getElem? (i := 3) rfl) qsub_nil))) (fr_X12_opens_b30 x1 h E))
def w_X12_opens : List (Nat × Nat) := [(119, 23), (119, 27), (119, 29), (148, 0)]
theorem fr_X12_opens (x1 : Int32) (h : qa_M) {z : qa_M} (E : m_X12_opens x1 h = some z) : qfr w_X12_opens h ((fun z : qa_M => z) z) := by
  unfold m_X12_opens at E
  have e_h : qfr w_X12_opens h h := qfr_rf
  rcases qif_el E with E | E
  · exact qfr_tr e_h (qfr_sub (qsub_c (List.mem_of_getElem? (i := 0) rfl) (qsub_c (List.mem_of_getElem? (i := 1) rfl) (qsub_c (List.mem_of_getElem? (i := 2) rfl) (qsub_c (List.mem_of_getElem? (i := 3) rfl) qsub_nil)))) (fr_X12_opens_b12 x1 h E))
  · rcases qif_el E with E | E
    · exact qfr_tr e_h (qfr_sub (qsub_c (List.mem_of_getElem? (i := 0) rfl) (qsub_c (List.mem_of_getElem? (i := 1) rfl) (qsub_c (List.mem_of_getElem? (i := 2) rfl) (qsub_c (List.mem_of_getElem? (i := 3) rfl) qsub_nil)))) (fr_X12_opens_b12 x1 h E))
    · exact qfr_tr e_h (qfr_sub (qsub_c (List.mem_of_getElem? (i := 2) rfl) (qsub_c (List.mem_of_getElem? (i := 3) rfl) qsub_nil)) (fr_X12_opens_b40 x1 h E))
def wf_X12_isCounted_b15 : List (Nat × Nat) := [(119, 28)]
theorem fr_X12_isCounted_b15 (h : qa_M) {z : qa_M} (E : f_X12_isCounted_b15 h = some z) : qfr wf_X12_isCounted_b15 h ((fun z : qa_M => z) z) := by
  unfold f_X12_isCounted_b15 at E
  have e_h : qfr wf_X12_isCounted_b15 h h := qfr_rf
  obtain ⟨h22, q_h22, E⟩ := qbd_el E
  have e_h22 := qfr_Ik q_h22 (List.mem_of_getElem? (i := 0) rfl) e_h
  exact qsome_f (Q := fun z => qfr wf_X12_isCounted_b15 h ((fun z : qa_M => z) z)) E e_h22
def w_X12_isCounted : List (Nat × Nat) := [(119, 23), (119, 28)]
theorem fr_X12_isCounted (x1 : Int32) (h : qa_M) {z : qa_M} (E : m_X12_isCounted x1 h = some z) : qfr w_X12_isCounted h ((fun z : qa_M => z) z) := by
  unfold m_X12_isCounted at E
  have e_h : qfr w_X12_isCounted h h := qfr_rf
  rcases qif_el E with E | E
  · obtain ⟨h12, E0, E⟩ := qbv_el E
    have e_h12 := qfr_tr e_h (qfr_sub (qsub_c (List.mem_of_getElem? (i := 0) rfl) qsub_nil) (fr_X12_fails (3 : Int32) x1 h E0))
    exact qfr_tr e_h12 (qfr_sub (qsub_c (List.mem_of_getElem? (i := 1) rfl) qsub_nil) (fr_X12_isCounted_b15 h12 E))
  · exact qfr_tr e_h (qfr_sub (qsub_c (List.mem_of_getElem? (i := 1) rfl) qsub_nil) (fr_X12_isCounted_b15 h E))
def w_X12_entry : List (Nat × Nat) := [(119, 26), (140, 0), (141, 0)]
theorem fr_X12_entry (x1 : Int32) (x2 : Int32) (h : qa_M) {z : qa_M} (E : m_X12_entry x1 x2 h = some z) : qfr w_X12_entry h ((fun z : qa_M => z) z) := by
  unfold m_X12_entry at E
  have e_h : qfr w_X12_entry h h := qfr_rf
  rcases qif_el E with E | E
  · obtain ⟨-, E⟩ := qck_el E
    obtain ⟨h25, q_h25, E⟩ := qbd_el E
    have e_h25 := qfr_I0 q_h25 (List.mem_of_getElem? (i := 1) rfl) e_h
    obtain ⟨-, E⟩ := qck_el E
    obtain ⟨h44, q_h44, E⟩ := qbd_el E
    have e_h44 := qfr_I0 q_h44 (List.mem_of_getElem? (i := 2) rfl) e_h25
    obtain ⟨h52, q_h52, E⟩ := qbd_el E
    have e_h52 := qfr_Ik q_h52 (List.mem_of_getElem? (i := 0) rfl) e_h44
    exact qsome_f (Q := fun z => qfr w_X12_entry h ((fun z : qa_M => z) z)) E e_h52
  · exact qsome_f (Q := fun z => qfr w_X12_entry h ((fun z : qa_M => z) z)) E e_h
theorem fr_X12_wordOf (x0 : Int32) (h : qa_M) {z : (Nat × qa_M)} (E : m_X12_wordOf x0 h = some z) : qfr wz h ((fun z : Nat × qa_M => z.2) z) := by
  unfold m_X12_wordOf at E
  have e_h : qfr wz h h := qfr_rf
  rcases qif_el E with E | E
  · exact qsome_f (Q := fun z => qfr wz h ((fun z : Nat × qa_M => z.2) z)) E e_h
  · rcases qif_el E with E | E
    · exact qsome_f (Q := fun z => qfr wz h ((fun z : Nat × qa_M => z.2) z)) E e_h
    · rcases qif_el E with E | E
      · exact qsome_f (Q := fun z => qfr wz h ((fun z : Nat × qa_M => z.2) z)) E e_h
      · rcases qif_el E with E | E
        · exact qsome_f (Q := fun z => qfr wz h ((fun z : Nat × qa_M => z.2) z)) E e_h
        · rcases qif_el E with E | E
          · exact qsome_f (Q := fun z => qfr wz h ((fun z : Nat × qa_M => z.2) z)) E e_h
          · rcases qif_el E with E | E
            · exact qsome_f (Q := fun z => qfr wz h ((fun z : Nat × qa_M => z.2) z)) E e_h
            · exact qsome_f (Q := fun z => qfr wz h ((fun z : Nat × qa_M => z.2) z)) E e_h
def wf_X12_value_b63 : List (Nat × Nat) := [(119, 22), (119, 23), (119, 26), (119, 28), (140, 0), (141, 0)]
theorem fr_X12_value_b63 (x1 : Int32) (x2 : Int32) (h : qa_M) {z : qa_M} (E : f_X12_value_b63 x1 x2 h = some z) : qfr wf_X12_value_b63 h ((fun z : qa_M => z) z) := by
  unfold f_X12_value_b63 at E
  have e_h : qfr wf_X12_value_b63 h h := qfr_rf
  rcases qif_el E with E | E
  · obtain ⟨h74, E0, E⟩ := qbv_el E
    have e_h74 := qfr_tr e_h (qfr_sub (qsub_c (List.mem_of_getElem? (i := 1) rfl) qsub_nil) (fr_X12_fails (0 : Int32) x1 h E0))
    exact qsome_f (Q := fun z => qfr wf_X12_value_b63 h ((fun z : qa_M => z) z)) E e_h74
  · obtain ⟨h80, E0, E⟩ := qbv_el E
    have e_h80 := qfr_tr e_h (qfr_sub (qsub_c (List.mem_of_getElem? (i := 1) rfl) (qsub_c (List.mem_of_getElem? (i := 3) rfl) qsub_nil)) (fr_X12_isCounted x1 h E0))
    obtain ⟨c89, h89, E0, E⟩ := qbn_el E
    have e_h89 := qfr_tr e_h80 (qfr_sub qsub_nil (fr_X12_wordOf x2 h80 E0))
    obtain ⟨-, E⟩ := qpr_el E
    obtain ⟨h96, q_h96, E⟩ := qbd_el E
    have e_h96 := qfr_Ik q_h96 (List.mem_of_getElem? (i := 0) rfl) e_h89
    obtain ⟨h102, E0, E⟩ := qbv_el E
    have e_h102 := qfr_tr e_h96 (qfr_sub (qsub_c (List.mem_of_getElem? (i := 2) rfl) (qsub_c (List.mem_of_getElem? (i := 4) rfl) (qsub_c (List.mem_of_getElem? (i := 5) rfl) qsub_nil))) (fr_X12_entry (1 : Int32) x2 h96 E0))
    exact qsome_f (Q := fun z => qfr wf_X12_value_b63 h ((fun z : qa_M => z) z)) E e_h102
def wf_X12_value_b38 : List (Nat × Nat) := [(119, 22), (119, 23), (119, 26), (119, 28), (140, 0), (141, 0)]
theorem fr_X12_value_b38 (x1 : Int32) (x2 : Int32) (h : qa_M) {z : ((Int32 × Int32 × qa_M) ⊕ qa_M)} (E : f_X12_value_b38 x1 x2 h = some z) : qfr wf_X12_value_b38 h ((Sum.elim (fun z : Int32 × Int32 × qa_M => z.2.2) (fun z : qa_M => z)) z) := by
  unfold f_X12_value_b38 at E
  have e_h : qfr wf_X12_value_b38 h h := qfr_rf
  rcases qif_el E with E | E
  · refine qup_f (Q := fun z => qfr wf_X12_value_b38 h ((Sum.elim (fun z : Int32 × Int32 × qa_M => z.2.2) (fun z : qa_M => z)) z)) E (fun rz E => ?_)
    exact qfr_tr e_h (qfr_sub (qsub_c (List.mem_of_getElem? (i := 0) rfl) (qsub_c (List.mem_of_getElem? (i := 1) rfl) (qsub_c (List.mem_of_getElem? (i := 2) rfl) (qsub_c (List.mem_of_getElem? (i := 3) rfl) (qsub_c (List.mem_of_getElem? (i := 4) rfl) (qsub_c (List.mem_of_getElem? (i := 5) rfl) qsub_nil)))))) (fr_X12_value_b63 x1 x2 h E))
  · obtain ⟨c48, h48, E0, E⟩ := qbn_el E
    have e_h48 := qfr_tr e_h (qfr_sub qsub_nil (fr_X12_wordOf x2 h E0))
    obtain ⟨-, E⟩ := qpr_el E
    obtain ⟨c51, h51, E0, E⟩ := qbn_el E
    have e_h51 := qfr_tr e_h48 (qfr_sub qsub_nil (fr_X12_stood c48 h48 E0))
    rcases qif_el E with E | E
    · obtain ⟨v57, -, E⟩ := qbd_el E
      exact qsome_f (Q := fun z => qfr wf_X12_value_b38 h ((Sum.elim (fun z : Int32 × Int32 × qa_M => z.2.2) (fun z : qa_M => z)) z)) E e_h51
    · refine qup_f (Q := fun z => qfr wf_X12_value_b38 h ((Sum.elim (fun z : Int32 × Int32 × qa_M => z.2.2) (fun z : qa_M => z)) z)) E (fun rz E => ?_)
      exact qfr_tr e_h51 (qfr_sub (qsub_c (List.mem_of_getElem? (i := 0) rfl) (qsub_c (List.mem_of_getElem? (i := 1) rfl) (qsub_c (List.mem_of_getElem? (i := 2) rfl) (qsub_c (List.mem_of_getElem? (i := 3) rfl) (qsub_c (List.mem_of_getElem? (i := 4) rfl) (qsub_c (List.mem_of_getElem? (i := 5) rfl) qsub_nil)))))) (fr_X12_value_b63 x1 x2 h51 E))
theorem fr_X12_value_b38_loop (x1 : Int32) (x2 : Int32) (h : qa_M) {z : qa_M} (E : f_X12_value_b38_loop x1 x2 h = some z) : qfr wf_X12_value_b38 h ((fun z : qa_M => z) z) :=
  qlp_ind (fun sz : Int32 × Int32 × qa_M => qfr wf_X12_value_b38 (sz.2.2) ((fun z : qa_M => z) z)) (fun sz E => fr_X12_value_b38 sz.1 sz.2.1 sz.2.2 E) (fun sz sz2 E ih => qfr_tr (fr_X12_value_b38 sz.1 sz.2.1 sz.2.2 E) ih) (x1, x2, h) E
def w_X12_value : List (Nat × Nat) := [(119, 22), (119, 23), (119, 26), (119, 28), (140, 0), (141, 0)]
theorem fr_X12_value (h : qa_M) {z : qa_M} (E : m_X12_value h = some z) : qfr w_X12_value h ((fun z : qa_M => z) z) := by
  unfold m_X12_value at E
  have e_h : qfr w_X12_value h h := qfr_rf
  obtain ⟨h1, E0, E⟩ := qbv_el E
  have e_h1 := qfr_tr e_h (qfr_sub (qsub_c (List.mem_of_getElem? (i := 0) rfl) qsub_nil) (fr_X12_blanks h E0))
  obtain ⟨v8, -, E⟩ := qbd_el E
  obtain ⟨c10, h10, E0, E⟩ := qbn_el E
  have e_h10 := qfr_tr e_h1 (qfr_sub qsub_nil (fr_X12_isDigit h1 E0))
  rcases qif_el E with E | E
  · obtain ⟨v37, -, E⟩ := qbd_el E
    exact qfr_tr e_h10 (qfr_sub (qsub_c (List.mem_of_getElem? (i := 0) rfl) (qsub_c (List.mem_of_getElem? (i := 1) rfl) (qsub_c (List.mem_of_getElem? (i := 2) rfl) (qsub_c (List.mem_of_getElem? (i := 3) rfl) (qsub_c (List.mem_of_getElem? (i := 4) rfl) (qsub_c (List.mem_of_getElem? (i := 5) rfl) qsub_nil)))))) (fr_X12_value_b38_loop v8 v37 h10 E))
  · obtain ⟨c20, h20, E0, E⟩ := qbn_el E
    have e_h20 := qfr_tr e_h10 (qfr_sub (qsub_c (List.mem_of_getElem? (i := 0) rfl) (qsub_c (List.mem_of_getElem? (i := 1) rfl) qsub_nil)) (fr_X12_digits (99999 : Int32) h10 E0))
    obtain ⟨v23, -, E⟩ := qbd_el E
    obtain ⟨h26, E0, E⟩ := qbv_el E
    have e_h26 := qfr_tr e_h20 (qfr_sub (qsub_c (List.mem_of_getElem? (i := 1) rfl) (qsub_c (List.mem_of_getElem? (i := 3) rfl) qsub_nil)) (fr_X12_isCounted v8 h20 E0))
    obtain ⟨h32, E0, E⟩ := qbv_el E
    have e_h32 := qfr_tr e_h26 (qfr_sub (qsub_c (List.mem_of_getElem? (i := 2) rfl) (qsub_c (List.mem_of_getElem? (i := 4) rfl) (qsub_c (List.mem_of_getElem? (i := 5) rfl) qsub_nil))) (fr_X12_entry (0 : Int32) v23 h26 E0))
    exact qsome_f (Q := fun z => qfr w_X12_value h ((fun z : qa_M => z) z)) E e_h32
def wf_X12_term_b49 : List (Nat × Nat) := [(119, 22), (119, 23), (119, 26), (119, 28), (140, 0), (141, 0)]
theorem fr_X12_term_b49 (s0 : Int32) (h : qa_M) {z : ((qa_M) ⊕ qa_M)} (E : f_X12_term_b49 s0 h = some z) : qfr wf_X12_term_b49 h ((Sum.elim (fun z : qa_M => z) (fun z : qa_M => z)) z) := by
  unfold f_X12_term_b49 at E
  have e_h : qfr wf_X12_term_b49 h h := qfr_rf
  obtain ⟨v49, -, E⟩ := qbd_el E
  obtain ⟨h57, q_h57, E⟩ := qbd_el E
  have e_h57 := qfr_Ik q_h57 (List.mem_of_getElem? (i := 0) rfl) e_h
  obtain ⟨h61, E0, E⟩ := qbv_el E
  have e_h61 := qfr_tr e_h57 (qfr_sub (qsub_c (List.mem_of_getElem? (i := 0) rfl) (qsub_c (List.mem_of_getElem? (i := 1) rfl) (qsub_c (List.mem_of_getElem? (i := 2) rfl) (qsub_c (List.mem_of_getElem? (i := 3) rfl) (qsub_c (List.mem_of_getElem? (i := 4) rfl) (qsub_c (List.mem_of_getElem? (i := 5) rfl) qsub_nil)))))) (fr_X12_value h57 E0))
  obtain ⟨h67, E0, E⟩ := qbv_el E
  have e_h67 := qfr_tr e_h61 (qfr_sub (qsub_c (List.mem_of_getElem? (i := 2) rfl) (qsub_c (List.mem_of_getElem? (i := 4) rfl) (qsub_c (List.mem_of_getElem? (i := 5) rfl) qsub_nil))) (fr_X12_entry v49 (0 : Int32) h61 E0))
  obtain ⟨h71, E0, E⟩ := qbv_el E
  have e_h71 := qfr_tr e_h67 (qfr_sub (qsub_c (List.mem_of_getElem? (i := 0) rfl) qsub_nil) (fr_X12_blanks h67 E0))
  exact qsome_f (Q := fun z => qfr wf_X12_term_b49 h ((Sum.elim (fun z : qa_M => z) (fun z : qa_M => z)) z)) E e_h71
def wf_X12_term_b33 : List (Nat × Nat) := [(119, 22), (119, 23), (119, 26), (119, 28), (140, 0), (141, 0)]
theorem fr_X12_term_b33 (h : qa_M) {z : ((qa_M) ⊕ qa_M)} (E : f_X12_term_b33 h = some z) : qfr wf_X12_term_b33 h ((Sum.elim (fun z : qa_M => z) (fun z : qa_M => z)) z) := by
  unfold f_X12_term_b33 at E
  have e_h : qfr wf_X12_term_b33 h h := qfr_rf
  obtain ⟨c34, h34, E0, E⟩ := qbn_el E
  have e_h34 := qfr_tr e_h (qfr_sub qsub_nil (fr_X12_sign h E0))
  rcases qif_el E with E | E
  · exact qfr_tr e_h34 (qfr_sub (qsub_c (List.mem_of_getElem? (i := 0) rfl) (qsub_c (List.mem_of_getElem? (i := 1) rfl) (qsub_c (List.mem_of_getElem? (i := 2) rfl) (qsub_c (List.mem_of_getElem? (i := 3) rfl) (qsub_c (List.mem_of_getElem? (i := 4) rfl) (qsub_c (List.mem_of_getElem? (i := 5) rfl) qsub_nil)))))) (fr_X12_term_b49 (13 : Int32) h34 E))
  · exact qfr_tr e_h34 (qfr_sub (qsub_c (List.mem_of_getElem? (i := 0) rfl) (qsub_c (List.mem_of_getElem? (i := 1) rfl) (qsub_c (List.mem_of_getElem? (i := 2) rfl) (qsub_c (List.mem_of_getElem? (i := 3) rfl) (qsub_c (List.mem_of_getElem? (i := 4) rfl) (qsub_c (List.mem_of_getElem? (i := 5) rfl) qsub_nil)))))) (fr_X12_term_b49 (14 : Int32) h34 E))
def wf_X12_term_b8 : List (Nat × Nat) := [(119, 22), (119, 23), (119, 26), (119, 28), (140, 0), (141, 0)]
theorem fr_X12_term_b8 (h : qa_M) {z : ((qa_M) ⊕ qa_M)} (E : f_X12_term_b8 h = some z) : qfr wf_X12_term_b8 h ((Sum.elim (fun z : qa_M => z) (fun z : qa_M => z)) z) := by
  unfold f_X12_term_b8 at E
  have e_h : qfr wf_X12_term_b8 h h := qfr_rf
  rcases qif_el E with E | E
  · obtain ⟨c16, h16, E0, E⟩ := qbn_el E
    have e_h16 := qfr_tr e_h (qfr_sub qsub_nil (fr_X12_sign h E0))
    rcases qif_el E with E | E
    · exact qfr_tr e_h16 (qfr_sub (qsub_c (List.mem_of_getElem? (i := 0) rfl) (qsub_c (List.mem_of_getElem? (i := 1) rfl) (qsub_c (List.mem_of_getElem? (i := 2) rfl) (qsub_c (List.mem_of_getElem? (i := 3) rfl) (qsub_c (List.mem_of_getElem? (i := 4) rfl) (qsub_c (List.mem_of_getElem? (i := 5) rfl) qsub_nil)))))) (fr_X12_term_b33 h16 E))
    · obtain ⟨c25, h25, E0, E⟩ := qbn_el E
      have e_h25 := qfr_tr e_h16 (qfr_sub qsub_nil (fr_X12_sign h16 E0))
      rcases qif_el E with E | E
      · exact qfr_tr e_h25 (qfr_sub (qsub_c (List.mem_of_getElem? (i := 0) rfl) (qsub_c (List.mem_of_getElem? (i := 1) rfl) (qsub_c (List.mem_of_getElem? (i := 2) rfl) (qsub_c (List.mem_of_getElem? (i := 3) rfl) (qsub_c (List.mem_of_getElem? (i := 4) rfl) (qsub_c (List.mem_of_getElem? (i := 5) rfl) qsub_nil)))))) (fr_X12_term_b33 h25 E))
      · refine qup_f (Q := fun z => qfr wf_X12_term_b8 h ((Sum.elim (fun z : qa_M => z) (fun z : qa_M => z)) z)) E (fun rz E => ?_)
        exact qsome_f (Q := fun z => qfr wf_X12_term_b8 h ((fun z : qa_M => z) z)) E e_h25
  · refine qup_f (Q := fun z => qfr wf_X12_term_b8 h ((Sum.elim (fun z : qa_M => z) (fun z : qa_M => z)) z)) E (fun rz E => ?_)
    exact qsome_f (Q := fun z => qfr wf_X12_term_b8 h ((fun z : qa_M => z) z)) E e_h
theorem fr_X12_term_b8_loop (h : qa_M) {z : qa_M} (E : f_X12_term_b8_loop h = some z) : qfr wf_X12_term_b8 h ((fun z : qa_M => z) z) :=
  qlp_ind (fun sz : qa_M => qfr wf_X12_term_b8 (sz) ((fun z : qa_M => z) z)) (fun sz E => fr_X12_term_b8 sz E) (fun sz sz2 E ih => qfr_tr (fr_X12_term_b8 sz E) ih) h E
def w_X12_term : List (Nat × Nat) := [(119, 22), (119, 23), (119, 26), (119, 28), (140, 0), (141, 0)]
theorem fr_X12_term (h : qa_M) {z : qa_M} (E : m_X12_term h = some z) : qfr w_X12_term h ((fun z : qa_M => z) z) := by
  unfold m_X12_term at E
  have e_h : qfr w_X12_term h h := qfr_rf
  obtain ⟨h1, E0, E⟩ := qbv_el E
  have e_h1 := qfr_tr e_h (qfr_sub (qsub_c (List.mem_of_getElem? (i := 0) rfl) (qsub_c (List.mem_of_getElem? (i := 1) rfl) (qsub_c (List.mem_of_getElem? (i := 2) rfl) (qsub_c (List.mem_of_getElem? (i := 3) rfl) (qsub_c (List.mem_of_getElem? (i := 4) rfl) (qsub_c (List.mem_of_getElem? (i := 5) rfl) qsub_nil)))))) (fr_X12_value h E0))
  obtain ⟨h5, E0, E⟩ := qbv_el E
  have e_h5 := qfr_tr e_h1 (qfr_sub (qsub_c (List.mem_of_getElem? (i := 0) rfl) qsub_nil) (fr_X12_blanks h1 E0))
  exact qfr_tr e_h5 (qfr_sub (qsub_c (List.mem_of_getElem? (i := 0) rfl) (qsub_c (List.mem_of_getElem? (i := 1) rfl) (qsub_c (List.mem_of_getElem? (i := 2) rfl) (qsub_c (List.mem_of_getElem? (i := 3) rfl) (qsub_c (List.mem_of_getElem? (i := 4) rfl) (qsub_c (List.mem_of_getElem? (i := 5) rfl) qsub_nil)))))) (fr_X12_term_b8_loop h5 E))
def wf_X12_sum_b43 : List (Nat × Nat) := [(119, 22), (119, 23), (119, 26), (119, 28), (140, 0), (141, 0)]
theorem fr_X12_sum_b43 (s0 : Int32) (h : qa_M) {z : ((qa_M) ⊕ qa_M)} (E : f_X12_sum_b43 s0 h = some z) : qfr wf_X12_sum_b43 h ((Sum.elim (fun z : qa_M => z) (fun z : qa_M => z)) z) := by
  unfold f_X12_sum_b43 at E
  have e_h : qfr wf_X12_sum_b43 h h := qfr_rf
  obtain ⟨v43, -, E⟩ := qbd_el E
  obtain ⟨h51, q_h51, E⟩ := qbd_el E
  have e_h51 := qfr_Ik q_h51 (List.mem_of_getElem? (i := 0) rfl) e_h
  obtain ⟨h55, E0, E⟩ := qbv_el E
  have e_h55 := qfr_tr e_h51 (qfr_sub (qsub_c (List.mem_of_getElem? (i := 0) rfl) (qsub_c (List.mem_of_getElem? (i := 1) rfl) (qsub_c (List.mem_of_getElem? (i := 2) rfl) (qsub_c (List.mem_of_getElem? (i := 3) rfl) (qsub_c (List.mem_of_getElem? (i := 4) rfl) (qsub_c (List.mem_of_getElem? (i := 5) rfl) qsub_nil)))))) (fr_X12_term h51 E0))
  obtain ⟨h61, E0, E⟩ := qbv_el E
  have e_h61 := qfr_tr e_h55 (qfr_sub (qsub_c (List.mem_of_getElem? (i := 2) rfl) (qsub_c (List.mem_of_getElem? (i := 4) rfl) (qsub_c (List.mem_of_getElem? (i := 5) rfl) qsub_nil))) (fr_X12_entry v43 (0 : Int32) h55 E0))
  exact qsome_f (Q := fun z => qfr wf_X12_sum_b43 h ((Sum.elim (fun z : qa_M => z) (fun z : qa_M => z)) z)) E e_h61
def wf_X12_sum_b29 : List (Nat × Nat) := [(119, 22), (119, 23), (119, 26), (119, 28), (140, 0), (141, 0)]
theorem fr_X12_sum_b29 (h : qa_M) {z : ((qa_M) ⊕ qa_M)} (E : f_X12_sum_b29 h = some z) : qfr wf_X12_sum_b29 h ((Sum.elim (fun z : qa_M => z) (fun z : qa_M => z)) z) := by
  unfold f_X12_sum_b29 at E
  have e_h : qfr wf_X12_sum_b29 h h := qfr_rf
  obtain ⟨c30, h30, E0, E⟩ := qbn_el E
  have e_h30 := qfr_tr e_h (qfr_sub qsub_nil (fr_X12_sign h E0))
  rcases qif_el E with E | E
  · exact qfr_tr e_h30 (qfr_sub (qsub_c (List.mem_of_getElem? (i := 0) rfl) (qsub_c (List.mem_of_getElem? (i := 1) rfl) (qsub_c (List.mem_of_getElem? (i := 2) rfl) (qsub_c (List.mem_of_getElem? (i := 3) rfl) (qsub_c (List.mem_of_getElem? (i := 4) rfl) (qsub_c (List.mem_of_getElem? (i := 5) rfl) qsub_nil)))))) (fr_X12_sum_b43 (2 : Int32) h30 E))
  · exact qfr_tr e_h30 (qfr_sub (qsub_c (List.mem_of_getElem? (i := 0) rfl) (qsub_c (List.mem_of_getElem? (i := 1) rfl) (qsub_c (List.mem_of_getElem? (i := 2) rfl) (qsub_c (List.mem_of_getElem? (i := 3) rfl) (qsub_c (List.mem_of_getElem? (i := 4) rfl) (qsub_c (List.mem_of_getElem? (i := 5) rfl) qsub_nil)))))) (fr_X12_sum_b43 (3 : Int32) h30 E))
def wf_X12_sum_b4 : List (Nat × Nat) := [(119, 22), (119, 23), (119, 26), (119, 28), (140, 0), (141, 0)]
theorem fr_X12_sum_b4 (h : qa_M) {z : ((qa_M) ⊕ qa_M)} (E : f_X12_sum_b4 h = some z) : qfr wf_X12_sum_b4 h ((Sum.elim (fun z : qa_M => z) (fun z : qa_M => z)) z) := by
  unfold f_X12_sum_b4 at E
  have e_h : qfr wf_X12_sum_b4 h h := qfr_rf
  rcases qif_el E with E | E
  · obtain ⟨c12, h12, E0, E⟩ := qbn_el E
    have e_h12 := qfr_tr e_h (qfr_sub qsub_nil (fr_X12_sign h E0))
    rcases qif_el E with E | E
    · exact qfr_tr e_h12 (qfr_sub (qsub_c (List.mem_of_getElem? (i := 0) rfl) (qsub_c (List.mem_of_getElem? (i := 1) rfl) (qsub_c (List.mem_of_getElem? (i := 2) rfl) (qsub_c (List.mem_of_getElem? (i := 3) rfl) (qsub_c (List.mem_of_getElem? (i := 4) rfl) (qsub_c (List.mem_of_getElem? (i := 5) rfl) qsub_nil)))))) (fr_X12_sum_b29 h12 E))
    · obtain ⟨c21, h21, E0, E⟩ := qbn_el E
      have e_h21 := qfr_tr e_h12 (qfr_sub qsub_nil (fr_X12_sign h12 E0))
      rcases qif_el E with E | E
      · exact qfr_tr e_h21 (qfr_sub (qsub_c (List.mem_of_getElem? (i := 0) rfl) (qsub_c (List.mem_of_getElem? (i := 1) rfl) (qsub_c (List.mem_of_getElem? (i := 2) rfl) (qsub_c (List.mem_of_getElem? (i := 3) rfl) (qsub_c (List.mem_of_getElem? (i := 4) rfl) (qsub_c (List.mem_of_getElem? (i := 5) rfl) qsub_nil)))))) (fr_X12_sum_b29 h21 E))
      · refine qup_f (Q := fun z => qfr wf_X12_sum_b4 h ((Sum.elim (fun z : qa_M => z) (fun z : qa_M => z)) z)) E (fun rz E => ?_)
        exact qsome_f (Q := fun z => qfr wf_X12_sum_b4 h ((fun z : qa_M => z) z)) E e_h21
  · refine qup_f (Q := fun z => qfr wf_X12_sum_b4 h ((Sum.elim (fun z : qa_M => z) (fun z : qa_M => z)) z)) E (fun rz E => ?_)
    exact qsome_f (Q := fun z => qfr wf_X12_sum_b4 h ((fun z : qa_M => z) z)) E e_h
