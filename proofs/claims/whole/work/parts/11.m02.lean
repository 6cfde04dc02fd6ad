noncomputable def f_X7_prepare_b108 (x1 : Nat) (x3 : Int32) (h : qa_M) : Option ((Nat × Int32 × qa_M) ⊕ qa_M) :=
  qpr (x1 = 83 ∨ x1 = 92 ∨ x1 = 101 ∨ x1 = 110) (
  if (h.1 x1 0) ≤ x3 then (
   qup (some h))
  else (
   qck x3 12 (
   qck x3 12 (
   qck x3 12 (
   qbv (m_X7_keepApart (h.1 (x1 + 1) x3.toNatClampNeg) (h.1 (x1 + 2) x3.toNatClampNeg) (h.1 (x1 + 3) x3.toNatClampNeg) h) (fun h135 : qa_M =>
   qck x3 12 (
   qck x3 12 (
   qck x3 12 (
   qbv (m_X7_keepApart (h135.1 (x1 + 2) x3.toNatClampNeg) (h135.1 (x1 + 1) x3.toNatClampNeg) (h135.1 (x1 + 3) x3.toNatClampNeg) h135) (fun h157 : qa_M =>
   qbd (x3 + (1 : Int32)) (fun v160 : Int32 =>
   some (.inl (x1, v160, h157)))))))))))))
set_option maxRecDepth 20000 in
theorem s_X7_prepare_b108 {l : Launch} {g : qa_G} {d : Nat} {rz : Option Value} {hz : qa_M} (x1 : Nat) (x3 : Int32) (h : qa_M) {z : ((Nat × Int32 × qa_M) ⊕ qa_M)} (E : f_X7_prepare_b108 x1 x3 h = some z) (G : (Sum.elim (fun (sz : Nat × Int32 × qa_M) => qt_At l g (yX7_prepare, cX7_prepare, 5, none) (d + 4) 0 0 108 [(0, .ref (g.1 + 22)), (1, .ref (g.1 + sz.1)), (3, .int sz.2.1)] [] sz.2.2 rz hz) (qg_v rz hz)) z) : qt_At l g (yX7_prepare, cX7_prepare, 5, none) (d + 4) 0 0 108 [(0, .ref (g.1 + 22)), (1, .ref (g.1 + x1)), (3, .int x3)] [] h rz hz := by
  unfold f_X7_prepare_b108 at E
  obtain ⟨hx1, E⟩ := qpr_el E
  refine qt_iload_n 2 dX7_prepare_108 rfl rfl ?_
  refine qt_aload_n 1 dX7_prepare_109 rfl rfl ?_
  refine qt_getI (wl_Law_0 hx1 h) fe_RX7_89 rfl dX7_prepare_110 ?_
  refine qt_icmp_ge 166 dX7_prepare_113 (by decide) E (fun E => ?_) (fun E => ?_)
  · obtain ⟨z0_, E, G⟩ := qup_g E G
    exact qt_vreturn rfl (Nat.le_of_ble_eq_true rfl) dX7_prepare_166 E G
  · refine qt_aload_n 0 dX7_prepare_116 rfl rfl ?_
    refine qt_aload_n 1 dX7_prepare_117 rfl rfl ?_
    refine qt_getS (x1 + 1) (wl_Law_0 hx1 h) fe_RX7_92 rfl dX7_prepare_118 ?_
    refine qt_iload_n 2 dX7_prepare_121 rfl rfl ?_
    refine qt_iald (wl_Law_1 hx1 h) dX7_prepare_122 E (fun E => ?_)
    refine qt_aload_n 1 dX7_prepare_123 rfl rfl ?_
    refine qt_getS (x1 + 2) (wl_Law_0 hx1 h) fe_RX7_95 rfl dX7_prepare_124 ?_
    refine qt_iload_n 2 dX7_prepare_127 rfl rfl ?_
    refine qt_iald (wl_Law_2 hx1 h) dX7_prepare_128 E (fun E => ?_)
    refine qt_aload_n 1 dX7_prepare_129 rfl rfl ?_
    refine qt_getS (x1 + 3) (wl_Law_0 hx1 h) fe_RX7_98 rfl dX7_prepare_130 ?_
    refine qt_iload_n 2 dX7_prepare_133 rfl rfl ?_
    refine qt_iald (wl_Law_3 hx1 h) dX7_prepare_134 E (fun E => ?_)
    obtain ⟨h135, e135, E⟩ := qbv_el E
    refine qt_callVv (b2 := 0) [.int (h.1 (x1 + 1) x3.toNatClampNeg), .int (h.1 (x1 + 2) x3.toNatClampNeg), .int (h.1 (x1 + 3) x3.toNatClampNeg)] (c_X7_keepApart (h.1 (x1 + 1) x3.toNatClampNeg) (h.1 (x1 + 2) x3.toNatClampNeg) (h.1 (x1 + 3) x3.toNatClampNeg) h e135) cv_RX7_101 (wl_22 h) rfl rfl rfl (Nat.le_of_ble_eq_true rfl) (Nat.le_of_ble_eq_true rfl) dX7_prepare_135 ?_
    refine qt_aload_n 0 dX7_prepare_138 rfl rfl ?_
    refine qt_aload_n 1 dX7_prepare_139 rfl rfl ?_
    refine qt_getS (x1 + 2) (wl_Law_0 hx1 h135) fe_RX7_95 rfl dX7_prepare_140 ?_
    refine qt_iload_n 2 dX7_prepare_143 rfl rfl ?_
    refine qt_iald (wl_Law_2 hx1 h135) dX7_prepare_144 E (fun E => ?_)
    refine qt_aload_n 1 dX7_prepare_145 rfl rfl ?_
    refine qt_getS (x1 + 1) (wl_Law_0 hx1 h135) fe_RX7_92 rfl dX7_prepare_146 ?_
    refine qt_iload_n 2 dX7_prepare_149 rfl rfl ?_
    refine qt_iald (wl_Law_1 hx1 h135) dX7_prepare_150 E (fun E => ?_)
    refine qt_aload_n 1 dX7_prepare_151 rfl rfl ?_
    refine qt_getS (x1 + 3) (wl_Law_0 hx1 h135) fe_RX7_98 rfl dX7_prepare_152 ?_
    refine qt_iload_n 2 dX7_prepare_155 rfl rfl ?_
    refine qt_iald (wl_Law_3 hx1 h135) dX7_prepare_156 E (fun E => ?_)
    obtain ⟨h157, e157, E⟩ := qbv_el E
    refine qt_callVv (b2 := 0) [.int (h135.1 (x1 + 2) x3.toNatClampNeg), .int (h135.1 (x1 + 1) x3.toNatClampNeg), .int (h135.1 (x1 + 3) x3.toNatClampNeg)] (c_X7_keepApart (h135.1 (x1 + 2) x3.toNatClampNeg) (h135.1 (x1 + 1) x3.toNatClampNeg) (h135.1 (x1 + 3) x3.toNatClampNeg) h135 e157) cv_RX7_101 (wl_22 h135) rfl rfl rfl (Nat.le_of_ble_eq_true rfl) (Nat.le_of_ble_eq_true rfl) dX7_prepare_157 ?_
    refine qt_iinc 2 (fun v160 => [(3, .int v160), (0, .ref (g.1 + 22)), (1, .ref (g.1 + x1))]) dX7_prepare_160 rfl ci_1 (Nat.le_of_ble_eq_true rfl) (fun _ => rfl) E (fun v160 E => ?_)
    refine qt_goto 108 dX7_prepare_163 (by decide) ?_
    cases E
    exact qt_sub _ [1, 2, 0] rfl (G)
noncomputable def f_X7_prepare_b108_loop (x1 : Nat) (x3 : Int32) (h : qa_M) : Option qa_M := qlp (fun sz : Nat × Int32 × qa_M => f_X7_prepare_b108 sz.1 sz.2.1 sz.2.2) (x1, x3, h)
theorem s_X7_prepare_b108_loop {l : Launch} {g : qa_G} {d : Nat} {rz : Option Value} {hz : qa_M} (x1 : Nat) (x3 : Int32) (h : qa_M) {z : qa_M} (E : f_X7_prepare_b108_loop x1 x3 h = some z) (G : (qg_v rz hz) z) : qt_At l g (yX7_prepare, cX7_prepare, 5, none) (d + 4) 0 0 108 [(0, .ref (g.1 + 22)), (1, .ref (g.1 + x1)), (3, .int x3)] [] h rz hz :=
  qlp_ind (fun sz : Nat × Int32 × qa_M => qt_At l g (yX7_prepare, cX7_prepare, 5, none) (d + 4) 0 0 108 [(0, .ref (g.1 + 22)), (1, .ref (g.1 + sz.1)), (3, .int sz.2.1)] [] sz.2.2 rz hz) (fun sz E => s_X7_prepare_b108 sz.1 sz.2.1 sz.2.2 E G) (fun sz sz2 E ih => s_X7_prepare_b108 sz.1 sz.2.1 sz.2.2 E ih) (x1, x3, h) E
noncomputable def f_X7_prepare_b77 (x1 : Nat) (h : qa_M) : Option qa_M :=
  qbv (m_J7_fill_d0a16 (0 : Int64) h) (fun h82 : qa_M =>
  qbv (m_J7_fill_53178 25 (1 : Int32) h82) (fun h90 : qa_M =>
  qnul x1 (
   some h90)
  (fun a94 => qpr (a94 = 83 ∨ a94 = 92 ∨ a94 = 101 ∨ a94 = 110) (
   qbv (m_X5_barSquares a94 h90) (fun h103 : qa_M =>
   qbd (0 : Int32) (fun v107 : Int32 =>
   f_X7_prepare_b108_loop a94 v107 h103))))))
set_option maxRecDepth 20000 in
theorem s_X7_prepare_b77 {l : Launch} {g : qa_G} {d : Nat} {rz : Option Value} {hz : qa_M} (x1 : Nat) (h : qa_M) {z : qa_M} (E : f_X7_prepare_b77 x1 h = some z) (G : (qg_v rz hz) z) : qt_At l g (yX7_prepare, cX7_prepare, 5, none) (d + 4) 0 0 77 [(0, .ref (g.1 + 22)), (1, qa_rv g.1 x1), (2, .ref (g.1 + 4))] [] h rz hz := by
  unfold f_X7_prepare_b77 at E
  refine qt_aload_n 0 dX7_prepare_77 rfl rfl ?_
  refine qt_getS 24 (wl_22 h) fe_RX7_15 rfl dX7_prepare_78 ?_
  refine qt_lconst dX7_prepare_81 cl_0 ?_
  obtain ⟨h82, e82, E⟩ := qbv_el E
  refine qt_callSv (b2 := 0) [.ref (g.1 + 24), .long (0 : Int64)] (c_J7_fill_d0a16 (0 : Int64) h e82) cv_RX7_74 rfl (Nat.le_of_ble_eq_true rfl) (Nat.le_of_ble_eq_true rfl) dX7_prepare_82 ?_
  refine qt_aload_n 0 dX7_prepare_85 rfl rfl ?_
  refine qt_getS 25 (wl_22 h82) fe_RX7_18 rfl dX7_prepare_86 ?_
  refine qt_iconst dX7_prepare_89 ci_1 ?_
  obtain ⟨h90, e90, E⟩ := qbv_el E
  refine qt_callSv (b2 := 0) [.ref (g.1 + 25), .int (1 : Int32)] (c_J7_fill_53178 25 (1 : Int32) h82 e90) cv_RX7_80 rfl (Nat.le_of_ble_eq_true rfl) (Nat.le_of_ble_eq_true rfl) dX7_prepare_90 ?_
  refine qt_aloadN 1 dX7_prepare_93 rfl rfl ?_
  refine qt_ifnull 166 dX7_prepare_94 (by decide) E (fun E => ?_) (fun a94 q94 E => ?_)
  · exact qt_vreturn rfl (Nat.le_of_ble_eq_true rfl) dX7_prepare_166 E G
  · subst q94
    obtain ⟨p94, E⟩ := qpr_el E
    refine qt_aload_n 1 dX7_prepare_97 rfl rfl ?_
    refine qt_aload_n 2 dX7_prepare_98 rfl rfl ?_
    refine qt_aload_n 0 dX7_prepare_99 rfl rfl ?_
    refine qt_getS 24 (wl_22 h90) fe_RX7_15 rfl dX7_prepare_100 ?_
    obtain ⟨h103, e103, E⟩ := qbv_el E
    refine qt_callVv (b2 := 0) [.ref (g.1 + 4), .ref (g.1 + 24)] (c_X5_barSquares a94 h90 p94 e103) cv_RX7_83 (wl_Law_0 p94 h90) rfl rfl rfl (Nat.le_of_ble_eq_true rfl) (Nat.le_of_ble_eq_true rfl) dX7_prepare_103 ?_
    refine qt_iconst dX7_prepare_106 ci_0 ?_
    refine qt_istore_n (fun v107 => [(3, .int v107), (0, .ref (g.1 + 22)), (1, .ref (g.1 + a94)), (2, .ref (g.1 + 4))]) dX7_prepare_107 rfl (Nat.le_of_ble_eq_true rfl) (fun _ => rfl) E (fun v107 E => ?_)
    exact qt_sub _ [1, 2, 0] rfl ((s_X7_prepare_b108_loop a94 v107 h103 E G))
noncomputable def f_X7_prepare_b71 (x1 : Nat) (x3 : Int32) (h : qa_M) : Option ((Nat × Int32 × qa_M) ⊕ qa_M) :=
  qbd (x3 + (1 : Int32)) (fun v71 : Int32 =>
  some (.inl (x1, v71, h)))
set_option maxRecDepth 20000 in
theorem s_X7_prepare_b71 {l : Launch} {g : qa_G} {d : Nat} {rz : Option Value} {hz : qa_M} (x1 : Nat) (x3 : Int32) (h : qa_M) {z : ((Nat × Int32 × qa_M) ⊕ qa_M)} (E : f_X7_prepare_b71 x1 x3 h = some z) (G : (Sum.elim (fun (sz : Nat × Int32 × qa_M) => qt_At l g (yX7_prepare, cX7_prepare, 5, none) (d + 4) 0 0 15 [(0, .ref (g.1 + 22)), (1, qa_rv g.1 sz.1), (2, .ref (g.1 + 4)), (3, .int sz.2.1)] [] sz.2.2 rz hz) (qg_v rz hz)) z) : qt_At l g (yX7_prepare, cX7_prepare, 5, none) (d + 4) 0 0 71 [(0, .ref (g.1 + 22)), (1, qa_rv g.1 x1), (2, .ref (g.1 + 4)), (3, .int x3)] [] h rz hz := by
  unfold f_X7_prepare_b71 at E
  refine qt_iinc 3 (fun v71 => [(3, .int v71), (0, .ref (g.1 + 22)), (1, qa_rv g.1 x1), (2, .ref (g.1 + 4))]) dX7_prepare_71 rfl ci_1 (Nat.le_of_ble_eq_true rfl) (fun _ => (by cases x1 <;> rfl)) E (fun v71 E => ?_)
  refine qt_goto 15 dX7_prepare_74 (by decide) ?_
  cases E
  exact qt_sub _ [1, 2, 3, 0] rfl (G)
noncomputable def f_X7_prepare_b26 (x1 : Nat) (x3 : Int32) (x4 : Int32) (h : qa_M) : Option ((Nat × Int32 × Int32 × qa_M) ⊕ ((Nat × Int32 × qa_M) ⊕ qa_M)) :=
  qck x3 4 (
  if (h.1 9 x3.toNatClampNeg) ≤ x4 then (
   qup (f_X7_prepare_b71 x1 x3 h))
  else (
   if (4 : Int32) ≤ (h.1 22 4) then (
    qup (f_X7_prepare_b71 x1 x3 h))
   else (
    qck (h.1 22 4) 4 (
    qbd (qw_I h 26 (h.1 22 4).toNatClampNeg x3) (fun h54 : qa_M =>
    qbd (qw_I h54 22 4 ((h54.1 22 4) + (1 : Int32))) (fun h62 : qa_M =>
    qbd (x4 + (1 : Int32)) (fun v65 : Int32 =>
    some (.inl (x1, x3, v65, h62)))))))))
set_option maxRecDepth 20000 in
theorem s_X7_prepare_b26 {l : Launch} {g : qa_G} {d : Nat} {rz : Option Value} {hz : qa_M} (x1 : Nat) (x3 : Int32) (x4 : Int32) (h : qa_M) {z : ((Nat × Int32 × Int32 × qa_M) ⊕ ((Nat × Int32 × qa_M) ⊕ qa_M))} (E : f_X7_prepare_b26 x1 x3 x4 h = some z) (G : (Sum.elim (fun (sz : Nat × Int32 × Int32 × qa_M) => qt_At l g (yX7_prepare, cX7_prepare, 5, none) (d + 4) 0 0 26 [(0, .ref (g.1 + 22)), (1, qa_rv g.1 sz.1), (2, .ref (g.1 + 4)), (3, .int sz.2.1), (4, .int sz.2.2.1)] [] sz.2.2.2 rz hz) (Sum.elim (fun (sz : Nat × Int32 × qa_M) => qt_At l g (yX7_prepare, cX7_prepare, 5, none) (d + 4) 0 0 15 [(0, .ref (g.1 + 22)), (1, qa_rv g.1 sz.1), (2, .ref (g.1 + 4)), (3, .int sz.2.1)] [] sz.2.2 rz hz) (qg_v rz hz))) z) : qt_At l g (yX7_prepare, cX7_prepare, 5, none) (d + 4) 0 0 26 [(0, .ref (g.1 + 22)), (1, qa_rv g.1 x1), (2, .ref (g.1 + 4)), (3, .int x3), (4, .int x4)] [] h rz hz := by
  unfold f_X7_prepare_b26 at E
  refine qt_iload 4 dX7_prepare_26 rfl ?_
  refine qt_aload_n 2 dX7_prepare_28 rfl rfl ?_
  refine qt_getS 9 (wl_4 h) fe_RX7_71 rfl dX7_prepare_29 ?_
  refine qt_iload_n 3 dX7_prepare_32 rfl rfl ?_
  refine qt_iald (wl_9 h) dX7_prepare_33 E (fun E => ?_)
  refine qt_icmp_ge 71 dX7_prepare_34 (by decide) E (fun E => ?_) (fun E => ?_)
  · obtain ⟨z0_, E, G⟩ := qup_g E G
    exact qt_sub _ [0, 1, 2, 3] rfl ((s_X7_prepare_b71 x1 x3 h E G))
  · refine qt_aload_n 0 dX7_prepare_37 rfl rfl ?_
    refine qt_getI (wl_22 h) fe_RX7_62 rfl dX7_prepare_38 ?_
    refine qt_iconst dX7_prepare_41 ci_4 ?_
    refine qt_icmp_ge 71 dX7_prepare_42 (by decide) E (fun E => ?_) (fun E => ?_)
    · obtain ⟨z0_, E, G⟩ := qup_g E G
      exact qt_sub _ [0, 1, 2, 3] rfl ((s_X7_prepare_b71 x1 x3 h E G))
    · refine qt_aload_n 0 dX7_prepare_45 rfl rfl ?_
      refine qt_getS 26 (wl_22 h) fe_RX7_22 rfl dX7_prepare_46 ?_
      refine qt_aload_n 0 dX7_prepare_49 rfl rfl ?_
      refine qt_getI (wl_22 h) fe_RX7_62 rfl dX7_prepare_50 ?_
      refine qt_iload_n 3 dX7_prepare_53 rfl rfl ?_
      refine qt_iast (wl_26 h) dX7_prepare_54 E (fun h54 E => ?_)
      refine qt_aload_n 0 dX7_prepare_55 rfl rfl ?_
      refine qt_dup dX7_prepare_56 rfl ?_
      refine qt_getI (wl_22 h54) fe_RX7_62 rfl dX7_prepare_57 ?_
      refine qt_iconst dX7_prepare_60 ci_1 ?_
      refine qt_iadd dX7_prepare_61 ?_
      refine qt_putI (wl_22 h54) fd_RX7_62 rfl rfl rfl dX7_prepare_62 E (fun h62 E => ?_)
      refine qt_iinc 4 (fun v65 => [(4, .int v65), (0, .ref (g.1 + 22)), (1, qa_rv g.1 x1), (2, .ref (g.1 + 4)), (3, .int x3)]) dX7_prepare_65 rfl ci_1 (Nat.le_of_ble_eq_true rfl) (fun _ => (by cases x1 <;> rfl)) E (fun v65 E => ?_)
      refine qt_goto 26 dX7_prepare_68 (by decide) ?_
      cases E
      exact qt_sub _ [1, 2, 3, 4, 0] rfl (G)
noncomputable def f_X7_prepare_b26_loop (x1 : Nat) (x3 : Int32) (x4 : Int32) (h : qa_M) : Option ((Nat × Int32 × qa_M) ⊕ qa_M) := qlp (fun sz : Nat × Int32 × Int32 × qa_M => f_X7_prepare_b26 sz.1 sz.2.1 sz.2.2.1 sz.2.2.2) (x1, x3, x4, h)
theorem s_X7_prepare_b26_loop {l : Launch} {g : qa_G} {d : Nat} {rz : Option Value} {hz : qa_M} (x1 : Nat) (x3 : Int32) (x4 : Int32) (h : qa_M) {z : ((Nat × Int32 × qa_M) ⊕ qa_M)} (E : f_X7_prepare_b26_loop x1 x3 x4 h = some z) (G : (Sum.elim (fun (sz : Nat × Int32 × qa_M) => qt_At l g (yX7_prepare, cX7_prepare, 5, none) (d + 4) 0 0 15 [(0, .ref (g.1 + 22)), (1, qa_rv g.1 sz.1), (2, .ref (g.1 + 4)), (3, .int sz.2.1)] [] sz.2.2 rz hz) (qg_v rz hz)) z) : qt_At l g (yX7_prepare, cX7_prepare, 5, none) (d + 4) 0 0 26 [(0, .ref (g.1 + 22)), (1, qa_rv g.1 x1), (2, .ref (g.1 + 4)), (3, .int x3), (4, .int x4)] [] h rz hz :=
  qlp_ind (fun sz : Nat × Int32 × Int32 × qa_M => qt_At l g (yX7_prepare, cX7_prepare, 5, none) (d + 4) 0 0 26 [(0, .ref (g.1 + 22)), (1, qa_rv g.1 sz.1), (2, .ref (g.1 + 4)), (3, .int sz.2.1), (4, .int sz.2.2.1)] [] sz.2.2.2 rz hz) (fun sz E => s_X7_prepare_b26 sz.1 sz.2.1 sz.2.2.1 sz.2.2.2 E G) (fun sz sz2 E ih => s_X7_prepare_b26 sz.1 sz.2.1 sz.2.2.1 sz.2.2.2 E ih) (x1, x3, x4, h) E
noncomputable def f_X7_prepare_b15 (x1 : Nat) (x3 : Int32) (h : qa_M) : Option ((Nat × Int32 × qa_M) ⊕ qa_M) :=
  if (h.1 4 4) ≤ x3 then (
   qup (f_X7_prepare_b77 x1 h))
  else (
   qbd (0 : Int32) (fun v24 : Int32 =>
   f_X7_prepare_b26_loop x1 x3 v24 h))
set_option maxRecDepth 20000 in
theorem s_X7_prepare_b15 {l : Launch} {g : qa_G} {d : Nat} {rz : Option Value} {hz : qa_M} (x1 : Nat) (x3 : Int32) (h : qa_M) {z : ((Nat × Int32 × qa_M) ⊕ qa_M)} (E : f_X7_prepare_b15 x1 x3 h = some z) (G : (Sum.elim (fun (sz : Nat × Int32 × qa_M) => qt_At l g (yX7_prepare, cX7_prepare, 5, none) (d + 4) 0 0 15 [(0, .ref (g.1 + 22)), (1, qa_rv g.1 sz.1), (2, .ref (g.1 + 4)), (3, .int sz.2.1)] [] sz.2.2 rz hz) (qg_v rz hz)) z) : qt_At l g (yX7_prepare, cX7_prepare, 5, none) (d + 4) 0 0 15 [(0, .ref (g.1 + 22)), (1, qa_rv g.1 x1), (2, .ref (g.1 + 4)), (3, .int x3)] [] h rz hz := by
  unfold f_X7_prepare_b15 at E
  refine qt_iload_n 3 dX7_prepare_15 rfl rfl ?_
  refine qt_aload_n 2 dX7_prepare_16 rfl rfl ?_
  refine qt_getI (wl_4 h) fe_RX7_66 rfl dX7_prepare_17 ?_
  refine qt_icmp_ge 77 dX7_prepare_20 (by decide) E (fun E => ?_) (fun E => ?_)
  · obtain ⟨z0_, E, G⟩ := qup_g E G
    exact qt_sub _ [0, 1, 2] rfl ((s_X7_prepare_b77 x1 h E G))
  · refine qt_iconst dX7_prepare_23 ci_0 ?_
    refine qt_istore (fun v24 => [(4, .int v24), (0, .ref (g.1 + 22)), (1, qa_rv g.1 x1), (2, .ref (g.1 + 4)), (3, .int x3)]) dX7_prepare_24 (Nat.le_of_ble_eq_true rfl) (fun _ => (by cases x1 <;> rfl)) E (fun v24 E => ?_)
    exact qt_sub _ [1, 2, 3, 4, 0] rfl ((s_X7_prepare_b26_loop x1 x3 v24 h E G))
noncomputable def f_X7_prepare_b15_loop (x1 : Nat) (x3 : Int32) (h : qa_M) : Option qa_M := qlp (fun sz : Nat × Int32 × qa_M => f_X7_prepare_b15 sz.1 sz.2.1 sz.2.2) (x1, x3, h)
theorem s_X7_prepare_b15_loop {l : Launch} {g : qa_G} {d : Nat} {rz : Option Value} {hz : qa_M} (x1 : Nat) (x3 : Int32) (h : qa_M) {z : qa_M} (E : f_X7_prepare_b15_loop x1 x3 h = some z) (G : (qg_v rz hz) z) : qt_At l g (yX7_prepare, cX7_prepare, 5, none) (d + 4) 0 0 15 [(0, .ref (g.1 + 22)), (1, qa_rv g.1 x1), (2, .ref (g.1 + 4)), (3, .int x3)] [] h rz hz :=
  qlp_ind (fun sz : Nat × Int32 × qa_M => qt_At l g (yX7_prepare, cX7_prepare, 5, none) (d + 4) 0 0 15 [(0, .ref (g.1 + 22)), (1, qa_rv g.1 sz.1), (2, .ref (g.1 + 4)), (3, .int sz.2.1)] [] sz.2.2 rz hz) (fun sz E => s_X7_prepare_b15 sz.1 sz.2.1 sz.2.2 E G) (fun sz sz2 E ih => s_X7_prepare_b15 sz.1 sz.2.1 sz.2.2 E ih) (x1, x3, h) E
noncomputable def m_X7_prepare (x1 : Nat) (h : qa_M) : Option qa_M :=
  qbd (qw_I h 22 4 (0 : Int32)) (fun h10 : qa_M =>
  qbd (0 : Int32) (fun v14 : Int32 =>
  f_X7_prepare_b15_loop x1 v14 h10))
set_option maxRecDepth 20000 in
theorem c_X7_prepare {l : Launch} {g : qa_G} {d : Nat} (x1 : Nat) (h : qa_M) {h1 : qa_M} (E : m_X7_prepare x1 h = some h1) : qt_Met l g (yX7_prepare, cX7_prepare, 5, none) (d + 4) 0 [.ref (g.1 + 22), qa_rv g.1 x1] h none h1 := by
  refine qt_Met.of (plainFor_of_name (by decide)) (by cases x1 <;> exact Nat.le_of_ble_eq_true rfl) ?_
  have G : qg_v none h1 (h1) := ⟨rfl, rfl⟩
  unfold m_X7_prepare at E
  refine qt_aload_n 0 dX7_prepare_0 rfl rfl ?_
  refine qt_getS 3 (wl_22 h) fe_RX7_46 rfl dX7_prepare_1 ?_
  refine qt_getS 4 (wl_3 h) fe_RX7_56 rfl dX7_prepare_4 ?_
  refine qt_astore_n [(2, .ref (g.1 + 4)), (0, .ref (g.1 + 22)), (1, qa_rv g.1 x1)] dX7_prepare_7 rfl (Nat.le_of_ble_eq_true rfl) (by cases x1 <;> rfl) ?_
  refine qt_aload_n 1 dX7_prepare_8 rfl rfl ?_
  refine qt_iconst dX7_prepare_9 ci_0 ?_
  refine qt_putI (wl_22 h) fd_RX7_62 rfl rfl rfl dX7_prepare_10 E (fun h10 E => ?_)
  refine qt_iconst dX7_prepare_13 ci_0 ?_
  refine qt_istore_n (fun v14 => [(3, .int v14), (2, .ref (g.1 + 4)), (0, .ref (g.1 + 22)), (1, qa_rv g.1 x1)]) dX7_prepare_14 rfl (Nat.le_of_ble_eq_true rfl) (fun _ => (by cases x1 <;> rfl)) E (fun v14 E => ?_)
  exact qt_sub _ [2, 3, 1, 0] rfl ((s_X7_prepare_b15_loop x1 v14 h10 E G))
noncomputable def f_X11_prepare_b41 (s1 : Nat) (h : qa_M) : Option qa_M :=
  qbv (m_X7_prepare s1 h) (fun h41 : qa_M =>
  qbd (qw_I h41 0 14 (h41.1 0 13)) (fun h49 : qa_M =>
  some h49))
set_option maxRecDepth 20000 in
theorem s_X11_prepare_b41 {l : Launch} {g : qa_G} {d : Nat} {rz : Option Value} {hz : qa_M} (s1 : Nat) (h : qa_M) {z : qa_M} (E : f_X11_prepare_b41 s1 h = some z) (G : (qg_v rz hz) z) : qt_At l g (yX11_prepare, cX11_prepare, 1, none) (d + 5) 0 0 41 [(0, .ref (g.1 + 0))] [qa_rv g.1 s1, .ref (g.1 + 22)] h rz hz := by
  unfold f_X11_prepare_b41 at E
  obtain ⟨h41, e41, E⟩ := qbv_el E
  refine qt_callVv (b2 := 0) [qa_rv g.1 s1] (c_X7_prepare s1 h e41) cv_RX11_285 (wl_22 h) rfl rfl rfl (Nat.le_of_ble_eq_true rfl) (Nat.le_of_ble_eq_true rfl) dX11_prepare_41 ?_
  refine qt_aload_n 0 dX11_prepare_44 rfl rfl ?_
  refine qt_aload_n 0 dX11_prepare_45 rfl rfl ?_
  refine qt_getI (wl_0 h41) fe_RX11_92 rfl dX11_prepare_46 ?_
  refine qt_putI (wl_0 h41) fd_RX11_282 rfl rfl rfl dX11_prepare_49 E (fun h49 E => ?_)
  exact qt_vreturn rfl (Nat.le_of_ble_eq_true rfl) dX11_prepare_52 E G
noncomputable def m_X11_prepare (h : qa_M) : Option qa_M :=
  if (h.1 0 14) = (h.1 0 13) then (
   some h)
  else (
   if 0 ≤ (h.1 3 3) then (
    qck (h.1 3 3) 4 (
    f_X11_prepare_b41 (h.2.2.1 13 (h.1 3 3).toNatClampNeg) h))
   else (
    f_X11_prepare_b41 0 h))
set_option maxRecDepth 20000 in
theorem c_X11_prepare {l : Launch} {g : qa_G} {d : Nat} (h : qa_M) {h1 : qa_M} (E : m_X11_prepare h = some h1) : qt_Met l g (yX11_prepare, cX11_prepare, 1, none) (d + 5) 0 [.ref (g.1 + 0)] h none h1 := by
  refine qt_Met.of (plainFor_of_name (by decide)) (Nat.le_of_ble_eq_true rfl) ?_
  have G : qg_v none h1 (h1) := ⟨rfl, rfl⟩
  unfold m_X11_prepare at E
  refine qt_aload_n 0 dX11_prepare_0 rfl rfl ?_
  refine qt_getI (wl_0 h) fe_RX11_282 rfl dX11_prepare_1 ?_
  refine qt_aload_n 0 dX11_prepare_4 rfl rfl ?_
  refine qt_getI (wl_0 h) fe_RX11_92 rfl dX11_prepare_5 ?_
  refine qt_icmp_eq 52 dX11_prepare_8 (by decide) E (fun E => ?_) (fun E => ?_)
  · exact qt_vreturn rfl (Nat.le_of_ble_eq_true rfl) dX11_prepare_52 E G
  · refine qt_aload_n 0 dX11_prepare_11 rfl rfl ?_
    refine qt_getS 22 (wl_0 h) fe_RX11_67 rfl dX11_prepare_12 ?_
    refine qt_aload_n 0 dX11_prepare_15 rfl rfl ?_
    refine qt_getS 3 (wl_0 h) fe_RX11_19 rfl dX11_prepare_16 ?_
    refine qt_getI (wl_3 h) fe_RX11_127 rfl dX11_prepare_19 ?_
    refine qt_if_ge 29 dX11_prepare_22 (by decide) E (fun E => ?_) (fun E => ?_)
    · refine qt_aload_n 0 dX11_prepare_29 rfl rfl ?_
      refine qt_getS 13 (wl_0 h) fe_RX11_33 rfl dX11_prepare_30 ?_
      refine qt_aload_n 0 dX11_prepare_33 rfl rfl ?_
      refine qt_getS 3 (wl_0 h) fe_RX11_19 rfl dX11_prepare_34 ?_
      refine qt_getI (wl_3 h) fe_RX11_127 rfl dX11_prepare_37 ?_
      refine qt_aald (Or.inr rfl) (wl_13 h) dX11_prepare_40 E (fun E => ?_)
      exact qt_sub _ [0] rfl ((s_X11_prepare_b41 (h.2.2.1 13 (h.1 3 3).toNatClampNeg) h E G))
    · refine qt_null dX11_prepare_25 ?_
      refine qt_goto 41 dX11_prepare_26 (by decide) ?_
      exact qt_sub _ [0] rfl ((s_X11_prepare_b41 0 h E G))
noncomputable def f_X7_barredAt_b4 (x1 : Int32) (x2 : Int32) (x3 : Int32) (h : qa_M) : Option ((Int32 × Int32 × Int32 × qa_M) ⊕ (Int32 × qa_M)) :=
  if (h.1 4 4) ≤ x3 then (
   qup (some (x2, h)))
  else (
   qck x3 4 (
   qbd (x2 ||| ((((q_lushr (h.2.1 24 x3.toNatClampNeg) x1) &&& (1 : Int64)).toInt32) <<< (x3 &&& 31))) (fun v33 : Int32 =>
   qbd (x3 + (1 : Int32)) (fun v34 : Int32 =>
   some (.inl (x1, v33, v34, h))))))
set_option maxRecDepth 20000 in
theorem s_X7_barredAt_b4 {l : Launch} {g : qa_G} {d : Nat} {rz : Option Value} {hz : qa_M} (x1 : Int32) (x2 : Int32) (x3 : Int32) (h : qa_M) {z : ((Int32 × Int32 × Int32 × qa_M) ⊕ (Int32 × qa_M))} (E : f_X7_barredAt_b4 x1 x2 x3 h = some z) (G : (Sum.elim (fun (sz : Int32 × Int32 × Int32 × qa_M) => qt_At l g (yX7_barredAt, cX7_barredAt, 4, (some .int)) d 0 0 4 [(0, .ref (g.1 + 22)), (1, .int sz.1), (2, .int sz.2.1), (3, .int sz.2.2.1)] [] sz.2.2.2 rz hz) (qg_i rz hz)) z) : qt_At l g (yX7_barredAt, cX7_barredAt, 4, (some .int)) d 0 0 4 [(0, .ref (g.1 + 22)), (1, .int x1), (2, .int x2), (3, .int x3)] [] h rz hz := by
  unfold f_X7_barredAt_b4 at E
  refine qt_iload_n 3 dX7_barredAt_4 rfl rfl ?_
  refine qt_aload_n 0 dX7_barredAt_5 rfl rfl ?_
  refine qt_getS 3 (wl_22 h) fe_RX7_46 rfl dX7_barredAt_6 ?_
  refine qt_getS 4 (wl_3 h) fe_RX7_56 rfl dX7_barredAt_9 ?_
  refine qt_getI (wl_4 h) fe_RX7_66 rfl dX7_barredAt_12 ?_
  refine qt_icmp_ge 40 dX7_barredAt_15 (by decide) E (fun E => ?_) (fun E => ?_)
  · refine qt_iload_n 2 dX7_barredAt_40 rfl rfl ?_
    obtain ⟨z0_, E, G⟩ := qup_g E G
    exact qt_ireturn rfl (Nat.le_of_ble_eq_true rfl) dX7_barredAt_41 E G
  · refine qt_iload_n 2 dX7_barredAt_18 rfl rfl ?_
    refine qt_aload_n 0 dX7_barredAt_19 rfl rfl ?_
    refine qt_getS 24 (wl_22 h) fe_RX7_15 rfl dX7_barredAt_20 ?_
    refine qt_iload_n 3 dX7_barredAt_23 rfl rfl ?_
    refine qt_lald (wl_24 h) dX7_barredAt_24 E (fun E => ?_)
    refine qt_iload_n 1 dX7_barredAt_25 rfl rfl ?_
    refine qt_lushr dX7_barredAt_26 ?_
    refine qt_lconst dX7_barredAt_27 cl_1 ?_
    refine qt_land dX7_barredAt_28 ?_
    refine qt_l2i dX7_barredAt_29 ?_
    refine qt_iload_n 3 dX7_barredAt_30 rfl rfl ?_
    refine qt_ishl dX7_barredAt_31 ?_
    refine qt_ior dX7_barredAt_32 ?_
    refine qt_istore_n (fun v33 => [(2, .int v33), (0, .ref (g.1 + 22)), (1, .int x1), (3, .int x3)]) dX7_barredAt_33 rfl (Nat.le_of_ble_eq_true rfl) (fun _ => rfl) E (fun v33 E => ?_)
    refine qt_iinc 3 (fun v34 => [(3, .int v34), (2, .int v33), (0, .ref (g.1 + 22)), (1, .int x1)]) dX7_barredAt_34 rfl ci_1 (Nat.le_of_ble_eq_true rfl) (fun _ => rfl) E (fun v34 E => ?_)
    refine qt_goto 4 dX7_barredAt_37 (by decide) ?_
    cases E
    exact qt_sub _ [2, 3, 1, 0] rfl (G)
noncomputable def f_X7_barredAt_b4_loop (x1 : Int32) (x2 : Int32) (x3 : Int32) (h : qa_M) : Option (Int32 × qa_M) := qlp (fun sz : Int32 × Int32 × Int32 × qa_M => f_X7_barredAt_b4 sz.1 sz.2.1 sz.2.2.1 sz.2.2.2) (x1, x2, x3, h)
theorem s_X7_barredAt_b4_loop {l : Launch} {g : qa_G} {d : Nat} {rz : Option Value} {hz : qa_M} (x1 : Int32) (x2 : Int32) (x3 : Int32) (h : qa_M) {z : (Int32 × qa_M)} (E : f_X7_barredAt_b4_loop x1 x2 x3 h = some z) (G : (qg_i rz hz) z) : qt_At l g (yX7_barredAt, cX7_barredAt, 4, (some .int)) d 0 0 4 [(0, .ref (g.1 + 22)), (1, .int x1), (2, .int x2), (3, .int x3)] [] h rz hz :=
  qlp_ind (fun sz : Int32 × Int32 × Int32 × qa_M => qt_At l g (yX7_barredAt, cX7_barredAt, 4, (some .int)) d 0 0 4 [(0, .ref (g.1 + 22)), (1, .int sz.1), (2, .int sz.2.1), (3, .int sz.2.2.1)] [] sz.2.2.2 rz hz) (fun sz E => s_X7_barredAt_b4 sz.1 sz.2.1 sz.2.2.1 sz.2.2.2 E G) (fun sz sz2 E ih => s_X7_barredAt_b4 sz.1 sz.2.1 sz.2.2.1 sz.2.2.2 E ih) (x1, x2, x3, h) E
noncomputable def m_X7_barredAt (x1 : Int32) (h : qa_M) : Option (Int32 × qa_M) :=
  qbd (0 : Int32) (fun v1 : Int32 =>
  qbd (0 : Int32) (fun v3 : Int32 =>
  f_X7_barredAt_b4_loop x1 v1 v3 h))
set_option maxRecDepth 20000 in
theorem c_X7_barredAt {l : Launch} {g : qa_G} {d : Nat} (x1 : Int32) (h : qa_M) {c : Int32} {h1 : qa_M} (E : m_X7_barredAt x1 h = some (c, h1)) : qt_Met l g (yX7_barredAt, cX7_barredAt, 4, (some .int)) d 0 [.ref (g.1 + 22), .int x1] h (some (.int c)) h1 := by
  refine qt_Met.of (plainFor_of_name (by decide)) (Nat.le_of_ble_eq_true rfl) ?_
  have G : qg_i (some (.int c)) h1 ((c, h1)) := ⟨rfl, rfl⟩
  unfold m_X7_barredAt at E
  refine qt_iconst dX7_barredAt_0 ci_0 ?_
  refine qt_istore_n (fun v1 => [(2, .int v1), (0, .ref (g.1 + 22)), (1, .int x1)]) dX7_barredAt_1 rfl (Nat.le_of_ble_eq_true rfl) (fun _ => rfl) E (fun v1 E => ?_)
  refine qt_iconst dX7_barredAt_2 ci_0 ?_
  refine qt_istore_n (fun v3 => [(3, .int v3), (2, .int v1), (0, .ref (g.1 + 22)), (1, .int x1)]) dX7_barredAt_3 rfl (Nat.le_of_ble_eq_true rfl) (fun _ => rfl) E (fun v3 E => ?_)
  exact qt_sub _ [2, 3, 1, 0] rfl ((s_X7_barredAt_b4_loop x1 v1 v3 h E G))
noncomputable def m_X11_square (x1 : Int32) (x2 : Int32) (x3 : Int32) (h : qa_M) : Option (Int32 × qa_M) :=
  qbn (m_X3_holds x1 x2 h) (fun (c13 : Int32) (h13 : qa_M) =>
  if c13 = 0 then (
   some ((-1 : Int32), h13))
  else (
   qbd (((6 : Int32) * x2) + x1) (fun v27 : Int32 =>
   if x3 = (0 : Int32) then (
    if ((q_lushr (h13.2.1 4 7) v27) &&& (1 : Int64)) = (0 : Int64) then (
     some ((0 : Int32), h13))
    else (
     some ((1 : Int32), h13)))
   else (
   if x3 = (1 : Int32) then (
    qbn (m_X3_hillOn 4 v27 h13) (fun (c93 : Int32) (h93 : qa_M) =>
    some (c93, h93)))
   else (
   if x3 = (2 : Int32) then (
    qbn (m_X3_hillsThatSee v27 h13) (fun (c101 : Int32) (h101 : qa_M) =>
    some (c101, h101)))
   else (
   if x3 = (3 : Int32) then (
    qbn (m_X3_roadsOf v27 h13) (fun (c109 : Int32) (h109 : qa_M) =>
    some (c109, h109)))
   else (
   if x3 = (4 : Int32) then (
    qbn (m_X3_woodsBeside v27 h13) (fun (c117 : Int32) (h117 : qa_M) =>
    some (c117, h117)))
   else (
   if x3 = (5 : Int32) then (
    qbv (m_X11_prepare h13) (fun h122 : qa_M =>
    qbn (m_X7_barredAt v27 h122) (fun (c131 : Int32) (h131 : qa_M) =>
    some (c131, h131))))
   else (
   some ((-1 : Int32), h13))))))))))
set_option maxRecDepth 20000 in
theorem c_X11_square {l : Launch} {g : qa_G} {d : Nat} (x1 : Int32) (x2 : Int32) (x3 : Int32) (h : qa_M) {c : Int32} {h1 : qa_M} (E : m_X11_square x1 x2 x3 h = some (c, h1)) : qt_Met l g (yX11_square, cX11_square, 6, (some .int)) (d + 6) 0 [.ref (g.1 + 0), .int x1, .int x2, .int x3] h (some (.int c)) h1 := by
  refine qt_Met.of (plainFor_of_name (by decide)) (Nat.le_of_ble_eq_true rfl) ?_
  have G : qg_i (some (.int c)) h1 ((c, h1)) := ⟨rfl, rfl⟩
  unfold m_X11_square at E
  refine qt_aload_n 0 dX11_square_0 rfl rfl ?_
  refine qt_getS 3 (wl_0 h) fe_RX11_19 rfl dX11_square_1 ?_
  refine qt_getS 4 (wl_3 h) fe_RX11_108 rfl dX11_square_4 ?_
  refine qt_astore [(4, .ref (g.1 + 4)), (0, .ref (g.1 + 0)), (1, .int x1), (2, .int x2), (3, .int x3)] dX11_square_7 (Nat.le_of_ble_eq_true rfl) rfl ?_
  refine qt_aload 0 dX11_square_9 rfl ?_
  refine qt_iload_n 2 dX11_square_11 rfl rfl ?_
  refine qt_iload_n 3 dX11_square_12 rfl rfl ?_
  obtain ⟨c13, h13, e13, E⟩ := qbn_el E
  refine qt_callVi (b2 := 0) [.int x1, .int x2] (c_X3_holds x1 x2 h e13) cv_RX11_144 (wl_4 h) rfl rfl rfl (Nat.le_of_ble_eq_true rfl) (Nat.le_of_ble_eq_true rfl) dX11_square_13 ?_
  refine qt_if_ne 21 dX11_square_16 (by decide) E (fun E => ?_) (fun E => ?_)
  · refine qt_bipush dX11_square_21 cb_6 ?_
    refine qt_iload_n 3 dX11_square_23 rfl rfl ?_
    refine qt_imul dX11_square_24 ?_
    refine qt_iload_n 2 dX11_square_25 rfl rfl ?_
    refine qt_iadd dX11_square_26 ?_
    refine qt_istore (fun v27 => [(5, .int v27), (4, .ref (g.1 + 4)), (0, .ref (g.1 + 0)), (1, .int x1), (2, .int x2), (3, .int x3)]) dX11_square_27 (Nat.le_of_ble_eq_true rfl) (fun _ => rfl) E (fun v27 E => ?_)
    refine qt_iload_n 5 dX11_square_29 rfl rfl ?_
    by_cases c30_0 : x3 = (0 : Int32)
    · replace E := qif_t c30_0 E
      refine qt_tabIn (off := 38) 68 dX11_square_30 c30_0 (by decide) (by decide) rfl (by decide) ?_
      refine qt_aload 1 dX11_square_68 rfl ?_
      refine qt_getJ (wl_4 h13) fe_RX11_147 rfl dX11_square_70 ?_
      refine qt_iload 0 dX11_square_73 rfl ?_
      refine qt_lushr dX11_square_75 ?_
      refine qt_lconst dX11_square_76 cl_1 ?_
      refine qt_land dX11_square_77 ?_
      refine qt_lconst dX11_square_78 cl_0 ?_
      refine qt_lc_eq 87 dX11_square_79 dX11_square_80 (by decide) E (fun E => ?_) (fun E => ?_)
      · refine qt_iconst dX11_square_87 ci_0 ?_
        exact qt_ireturn rfl (Nat.le_of_ble_eq_true rfl) dX11_square_88 E G
      · refine qt_iconst dX11_square_83 ci_1 ?_
        refine qt_goto 88 dX11_square_84 (by decide) ?_
        exact qt_ireturn rfl (Nat.le_of_ble_eq_true rfl) dX11_square_88 E G
    replace E := qif_f c30_0 E
    by_cases c30_1 : x3 = (1 : Int32)
    · replace E := qif_t c30_1 E
      refine qt_tabIn (off := 59) 89 dX11_square_30 c30_1 (by decide) (by decide) rfl (by decide) ?_
      refine qt_aload 1 dX11_square_89 rfl ?_
      refine qt_iload 0 dX11_square_91 rfl ?_
      obtain ⟨c93, h93, e93, E⟩ := qbn_el E
      refine qt_callVi (b2 := 0) [.int v27] (c_X3_hillOn 4 v27 h13 (show qLand 4 by unfold qLand; decide) e93) cv_RX11_151 (wl_4 h13) rfl rfl rfl (Nat.le_of_ble_eq_true rfl) (Nat.le_of_ble_eq_true rfl) dX11_square_93 ?_
      exact qt_ireturn rfl (Nat.le_of_ble_eq_true rfl) dX11_square_96 E G
    replace E := qif_f c30_1 E
    by_cases c30_2 : x3 = (2 : Int32)
    · replace E := qif_t c30_2 E
      refine qt_tabIn (off := 67) 97 dX11_square_30 c30_2 (by decide) (by decide) rfl (by decide) ?_
      refine qt_aload 1 dX11_square_97 rfl ?_
      refine qt_iload 0 dX11_square_99 rfl ?_
      obtain ⟨c101, h101, e101, E⟩ := qbn_el E
      refine qt_callVi (b2 := 0) [.int v27] (c_X3_hillsThatSee v27 h13 e101) cv_RX11_155 (wl_4 h13) rfl rfl rfl (Nat.le_of_ble_eq_true rfl) (Nat.le_of_ble_eq_true rfl) dX11_square_101 ?_
      exact qt_ireturn rfl (Nat.le_of_ble_eq_true rfl) dX11_square_104 E G
    replace E := qif_f c30_2 E
    by_cases c30_3 : x3 = (3 : Int32)
    · replace E := qif_t c30_3 E
      refine qt_tabIn (off := 75) 105 dX11_square_30 c30_3 (by decide) (by decide) rfl (by decide) ?_
      refine qt_aload 1 dX11_square_105 rfl ?_
      refine qt_iload 0 dX11_square_107 rfl ?_
      obtain ⟨c109, h109, e109, E⟩ := qbn_el E
      refine qt_callVi (b2 := 0) [.int v27] (c_X3_roadsOf v27 h13 e109) cv_RX11_158 (wl_4 h13) rfl rfl rfl (Nat.le_of_ble_eq_true rfl) (Nat.le_of_ble_eq_true rfl) dX11_square_109 ?_
      exact qt_ireturn rfl (Nat.le_of_ble_eq_true rfl) dX11_square_112 E G
    replace E := qif_f c30_3 E
    by_cases c30_4 : x3 = (4 : Int32)
    · replace E := qif_t c30_4 E
      refine qt_tabIn (off := 83) 113 dX11_square_30 c30_4 (by decide) (by decide) rfl (by decide) ?_
      refine qt_aload 1 dX11_square_113 rfl ?_
      refine qt_iload 0 dX11_square_115 rfl ?_
      obtain ⟨c117, h117, e117, E⟩ := qbn_el E
      refine qt_callVi (b2 := 0) [.int v27] (c_X3_woodsBeside v27 h13 e117) cv_RX11_161 (wl_4 h13) rfl rfl rfl (Nat.le_of_ble_eq_true rfl) (Nat.le_of_ble_eq_true rfl) dX11_square_117 ?_
      exact qt_ireturn rfl (Nat.le_of_ble_eq_true rfl) dX11_square_120 E G
    replace E := qif_f c30_4 E
    by_cases c30_5 : x3 = (5 : Int32)
    · replace E := qif_t c30_5 E
      refine qt_tabIn (off := 91) 121 dX11_square_30 c30_5 (by decide) (by decide) rfl (by decide) ?_
      refine qt_aload_n 2 dX11_square_121 rfl rfl ?_
      obtain ⟨h122, e122, E⟩ := qbv_el E
      refine qt_callVv (b2 := 0) [] (c_X11_prepare h13 e122) cv_RX11_164 (wl_0 h13) rfl rfl rfl (Nat.le_of_ble_eq_true rfl) (Nat.le_of_ble_eq_true rfl) dX11_square_122 ?_
      refine qt_aload_n 2 dX11_square_125 rfl rfl ?_
      refine qt_getS 22 (wl_0 h122) fe_RX11_67 rfl dX11_square_126 ?_
      refine qt_iload 0 dX11_square_129 rfl ?_
      obtain ⟨c131, h131, e131, E⟩ := qbn_el E
      refine qt_callVi (b2 := 0) [.int v27] (c_X7_barredAt v27 h122 e131) cv_RX11_167 (wl_22 h122) rfl rfl rfl (Nat.le_of_ble_eq_true rfl) (Nat.le_of_ble_eq_true rfl) dX11_square_131 ?_
      exact qt_ireturn rfl (Nat.le_of_ble_eq_true rfl) dX11_square_134 E G
    replace E := qif_f c30_5 E
    have e30_0 : (x3 : Int32).toInt ≠ 0 := fun q => c30_0 (Int32.toInt_inj.mp (q.trans (by decide)))
    have e30_1 : (x3 : Int32).toInt ≠ 1 := fun q => c30_1 (Int32.toInt_inj.mp (q.trans (by decide)))
    have e30_2 : (x3 : Int32).toInt ≠ 2 := fun q => c30_2 (Int32.toInt_inj.mp (q.trans (by decide)))
    have e30_3 : (x3 : Int32).toInt ≠ 3 := fun q => c30_3 (Int32.toInt_inj.mp (q.trans (by decide)))
    have e30_4 : (x3 : Int32).toInt ≠ 4 := fun q => c30_4 (Int32.toInt_inj.mp (q.trans (by decide)))
    have e30_5 : (x3 : Int32).toInt ≠ 5 := fun q => c30_5 (Int32.toInt_inj.mp (q.trans (by decide)))
    refine qt_tabOut 135 dX11_square_30 (by omega) (by decide) ?_
    refine qt_iconst dX11_square_135 ci_m1 ?_
    exact qt_ireturn rfl (Nat.le_of_ble_eq_true rfl) dX11_square_136 E G
  · refine qt_iconst dX11_square_19 ci_m1 ?_
    exact qt_ireturn rfl (Nat.le_of_ble_eq_true rfl) dX11_square_20 E G
noncomputable def m_X11_sees (x1 : Int32) (h : qa_M) : Option (Int64 × qa_M) :=
  qbn (m_X11_within x1 (h.1 4 2) h) (fun (c11 : Int32) (h11 : qa_M) =>
  if c11 = 0 then (
   some ((-1 : Int64), h11))
  else (
   qck x1 8 (
   some (h11.2.1 7 x1.toNatClampNeg, h11))))
set_option maxRecDepth 20000 in
theorem c_X11_sees {l : Launch} {g : qa_G} {d : Nat} (x1 : Int32) (h : qa_M) {c : Int64} {h1 : qa_M} (E : m_X11_sees x1 h = some (c, h1)) : qt_Met l g (yX11_sees, cX11_sees, 2, (some .long)) (d + 1) 0 [.ref (g.1 + 0), .int x1] h (some (.long c)) h1 := by
  refine qt_Met.of (plainFor_of_name (by decide)) (Nat.le_of_ble_eq_true rfl) ?_
  have G : qg_l (some (.long c)) h1 ((c, h1)) := ⟨rfl, rfl⟩
  unfold m_X11_sees at E
  refine qt_iload_n 1 dX11_sees_0 rfl rfl ?_
  refine qt_aload_n 0 dX11_sees_1 rfl rfl ?_
  refine qt_getS 3 (wl_0 h) fe_RX11_19 rfl dX11_sees_2 ?_
  refine qt_getS 4 (wl_3 h) fe_RX11_108 rfl dX11_sees_5 ?_
  refine qt_getI (wl_4 h) fe_RX11_118 rfl dX11_sees_8 ?_
  obtain ⟨c11, h11, e11, E⟩ := qbn_el E
  refine qt_callSi (b2 := 0) [.int x1, .int (h.1 4 2)] (c_X11_within x1 (h.1 4 2) h e11) cv_RX11_130 rfl (Nat.le_of_ble_eq_true rfl) (Nat.le_of_ble_eq_true rfl) dX11_sees_11 ?_
  refine qt_if_eq 32 dX11_sees_14 (by decide) E (fun E => ?_) (fun E => ?_)
  · refine qt_ldc2 tb_955 dX11_sees_32 ?_
    exact qt_lreturn rfl (Nat.le_of_ble_eq_true rfl) dX11_sees_35 E G
  · refine qt_aload_n 0 dX11_sees_17 rfl rfl ?_
    refine qt_getS 3 (wl_0 h11) fe_RX11_19 rfl dX11_sees_18 ?_
    refine qt_getS 4 (wl_3 h11) fe_RX11_108 rfl dX11_sees_21 ?_
    refine qt_getS 7 (wl_4 h11) fe_RX11_170 rfl dX11_sees_24 ?_
    refine qt_iload_n 1 dX11_sees_27 rfl rfl ?_
    refine qt_lald (wl_7 h11) dX11_sees_28 E (fun E => ?_)
    refine qt_goto 35 dX11_sees_29 (by decide) ?_
    exact qt_lreturn rfl (Nat.le_of_ble_eq_true rfl) dX11_sees_35 E G
noncomputable def m_X3_told (h : qa_M) : Option (Int32 × qa_M) :=
  if (h.1 4 0) ≤ 0 then (
   some ((0 : Int32), h))
  else (
   some ((1 : Int32), h))
set_option maxRecDepth 20000 in
theorem c_X3_told {l : Launch} {g : qa_G} {d : Nat} (h : qa_M) {c : Int32} {h1 : qa_M} (E : m_X3_told h = some (c, h1)) : qt_Met l g (yX3_told, cX3_told, 1, (some .boolean)) d 0 [.ref (g.1 + 4)] h (some (.int c)) h1 := by
  refine qt_Met.of (plainFor_of_name (by decide)) (Nat.le_of_ble_eq_true rfl) ?_
  have G : qg_i (some (.int c)) h1 ((c, h1)) := ⟨rfl, rfl⟩
  unfold m_X3_told at E
  refine qt_aload_n 0 dX3_told_0 rfl rfl ?_
  refine qt_getI (wl_4 h) fe_RX3_28 rfl dX3_told_1 ?_
  refine qt_if_le 11 dX3_told_4 (by decide) E (fun E => ?_) (fun E => ?_)
  · refine qt_iconst dX3_told_11 ci_0 ?_
    exact qt_zreturn rfl (Or.inl rfl) (Nat.le_of_ble_eq_true rfl) dX3_told_12 E G
  · refine qt_iconst dX3_told_7 ci_1 ?_
    refine qt_goto 12 dX3_told_8 (by decide) ?_
    exact qt_zreturn rfl (Or.inr rfl) (Nat.le_of_ble_eq_true rfl) dX3_told_12 E G
noncomputable def f_X11_hidden_b27 (x2 : Int64) (x4 : Int32) (h : qa_M) : Option ((Int64 × Int32 × qa_M) ⊕ (Int64 × qa_M)) :=
  if (h.1 4 2) ≤ x4 then (
   qup (some (x2, h)))
  else (
   qck x4 8 (
   qbd (x2 &&& ((h.2.1 7 x4.toNatClampNeg) ^^^ (-1 : Int64))) (fun v49 : Int64 =>
   qbd (x4 + (1 : Int32)) (fun v50 : Int32 =>
   some (.inl (v49, v50, h))))))
set_option maxRecDepth 20000 in
theorem s_X11_hidden_b27 {l : Launch} {g : qa_G} {d : Nat} {rz : Option Value} {hz : qa_M} (x2 : Int64) (x4 : Int32) (h : qa_M) {z : ((Int64 × Int32 × qa_M) ⊕ (Int64 × qa_M))} (E : f_X11_hidden_b27 x2 x4 h = some z) (G : (Sum.elim (fun (sz : Int64 × Int32 × qa_M) => qt_At l g (yX11_hidden, cX11_hidden, 5, (some .long)) (d + 1) 0 0 27 [(1, .ref (g.1 + 4)), (2, .long sz.1), (4, .int sz.2.1)] [] sz.2.2 rz hz) (qg_l rz hz)) z) : qt_At l g (yX11_hidden, cX11_hidden, 5, (some .long)) (d + 1) 0 0 27 [(1, .ref (g.1 + 4)), (2, .long x2), (4, .int x4)] [] h rz hz := by
  unfold f_X11_hidden_b27 at E
  refine qt_iload 2 dX11_hidden_27 rfl ?_
  refine qt_aload_n 0 dX11_hidden_29 rfl rfl ?_
  refine qt_getI (wl_4 h) fe_RX11_118 rfl dX11_hidden_30 ?_
  refine qt_icmp_ge 56 dX11_hidden_33 (by decide) E (fun E => ?_) (fun E => ?_)
  · refine qt_lload_n 1 dX11_hidden_56 rfl rfl ?_
    obtain ⟨z0_, E, G⟩ := qup_g E G
    exact qt_lreturn rfl (Nat.le_of_ble_eq_true rfl) dX11_hidden_57 E G
  · refine qt_lload_n 1 dX11_hidden_36 rfl rfl ?_
    refine qt_aload_n 0 dX11_hidden_37 rfl rfl ?_
    refine qt_getS 7 (wl_4 h) fe_RX11_170 rfl dX11_hidden_38 ?_
    refine qt_iload 2 dX11_hidden_41 rfl ?_
    refine qt_lald (wl_7 h) dX11_hidden_43 E (fun E => ?_)
    refine qt_ldc2 tb_955 dX11_hidden_44 ?_
    refine qt_lxor dX11_hidden_47 ?_
    refine qt_land dX11_hidden_48 ?_
    refine qt_lstore_n (fun v49 => [(2, .long v49), (1, .ref (g.1 + 4)), (4, .int x4)]) dX11_hidden_49 rfl (Nat.le_of_ble_eq_true rfl) (fun _ => rfl) E (fun v49 E => ?_)
    refine qt_iinc 2 (fun v50 => [(4, .int v50), (2, .long v49), (1, .ref (g.1 + 4))]) dX11_hidden_50 rfl ci_1 (Nat.le_of_ble_eq_true rfl) (fun _ => rfl) E (fun v50 E => ?_)
    refine qt_goto 27 dX11_hidden_53 (by decide) ?_
    cases E
    exact qt_sub _ [2, 1, 0] rfl (G)
noncomputable def f_X11_hidden_b27_loop (x2 : Int64) (x4 : Int32) (h : qa_M) : Option (Int64 × qa_M) := qlp (fun sz : Int64 × Int32 × qa_M => f_X11_hidden_b27 sz.1 sz.2.1 sz.2.2) (x2, x4, h)
theorem s_X11_hidden_b27_loop {l : Launch} {g : qa_G} {d : Nat} {rz : Option Value} {hz : qa_M} (x2 : Int64) (x4 : Int32) (h : qa_M) {z : (Int64 × qa_M)} (E : f_X11_hidden_b27_loop x2 x4 h = some z) (G : (qg_l rz hz) z) : qt_At l g (yX11_hidden, cX11_hidden, 5, (some .long)) (d + 1) 0 0 27 [(1, .ref (g.1 + 4)), (2, .long x2), (4, .int x4)] [] h rz hz :=
  qlp_ind (fun sz : Int64 × Int32 × qa_M => qt_At l g (yX11_hidden, cX11_hidden, 5, (some .long)) (d + 1) 0 0 27 [(1, .ref (g.1 + 4)), (2, .long sz.1), (4, .int sz.2.1)] [] sz.2.2 rz hz) (fun sz E => s_X11_hidden_b27 sz.1 sz.2.1 sz.2.2 E G) (fun sz sz2 E ih => s_X11_hidden_b27 sz.1 sz.2.1 sz.2.2 E ih) (x2, x4, h) E
noncomputable def m_X11_hidden (h : qa_M) : Option (Int64 × qa_M) :=
  qbn (m_X3_told h) (fun (c9 : Int32) (h9 : qa_M) =>
  if c9 = 0 then (
   some ((-1 : Int64), h9))
  else (
   qbd (h9.2.1 4 6) (fun v23 : Int64 =>
   qbd (0 : Int32) (fun v25 : Int32 =>
   f_X11_hidden_b27_loop v23 v25 h9))))
set_option maxRecDepth 20000 in
theorem c_X11_hidden {l : Launch} {g : qa_G} {d : Nat} (h : qa_M) {c : Int64} {h1 : qa_M} (E : m_X11_hidden h = some (c, h1)) : qt_Met l g (yX11_hidden, cX11_hidden, 5, (some .long)) (d + 1) 0 [.ref (g.1 + 0)] h (some (.long c)) h1 := by
  refine qt_Met.of (plainFor_of_name (by decide)) (Nat.le_of_ble_eq_true rfl) ?_
  have G : qg_l (some (.long c)) h1 ((c, h1)) := ⟨rfl, rfl⟩
  unfold m_X11_hidden at E
  refine qt_aload_n 0 dX11_hidden_0 rfl rfl ?_
  refine qt_getS 3 (wl_0 h) fe_RX11_19 rfl dX11_hidden_1 ?_
  refine qt_getS 4 (wl_3 h) fe_RX11_108 rfl dX11_hidden_4 ?_
  refine qt_astore_n [(1, .ref (g.1 + 4)), (0, .ref (g.1 + 0))] dX11_hidden_7 rfl (Nat.le_of_ble_eq_true rfl) rfl ?_
  refine qt_aload_n 0 dX11_hidden_8 rfl rfl ?_
  obtain ⟨c9, h9, e9, E⟩ := qbn_el E
  refine qt_callVi (b2 := 0) [] (c_X3_told h e9) cv_RX11_176 (wl_4 h) rfl rfl rfl (Nat.le_of_ble_eq_true rfl) (Nat.le_of_ble_eq_true rfl) dX11_hidden_9 ?_
  refine qt_if_ne 19 dX11_hidden_12 (by decide) E (fun E => ?_) (fun E => ?_)
  · refine qt_aload_n 0 dX11_hidden_19 rfl rfl ?_
    refine qt_getJ (wl_4 h9) fe_RX11_180 rfl dX11_hidden_20 ?_
    refine qt_lstore_n (fun v23 => [(2, .long v23), (1, .ref (g.1 + 4)), (0, .ref (g.1 + 0))]) dX11_hidden_23 rfl (Nat.le_of_ble_eq_true rfl) (fun _ => rfl) E (fun v23 E => ?_)
    refine qt_iconst dX11_hidden_24 ci_0 ?_
    refine qt_istore (fun v25 => [(4, .int v25), (2, .long v23), (1, .ref (g.1 + 4)), (0, .ref (g.1 + 0))]) dX11_hidden_25 (Nat.le_of_ble_eq_true rfl) (fun _ => rfl) E (fun v25 E => ?_)
    exact qt_sub _ [2, 1, 0] rfl ((s_X11_hidden_b27_loop v23 v25 h9 E G))
  · refine qt_ldc2 tb_955 dX11_hidden_15 ?_
    exact qt_lreturn rfl (Nat.le_of_ble_eq_true rfl) dX11_hidden_18 E G
noncomputable def m_X8_fact (x1 : Int32) (x2 : Int32) (h : qa_M) : Option (Int32 × qa_M) :=
  qck ((x1 * (5 : Int32)) + x2) 50 (
  some (h.1 10 ((x1 * (5 : Int32)) + x2).toNatClampNeg, h))
set_option maxRecDepth 20000 in
theorem c_X8_fact {l : Launch} {g : qa_G} {d : Nat} (x1 : Int32) (x2 : Int32) (h : qa_M) {c : Int32} {h1 : qa_M} (E : m_X8_fact x1 x2 h = some (c, h1)) : qt_Met l g (yX8_fact, cX8_fact, 3, (some .int)) d 0 [.ref (g.1 + 3), .int x1, .int x2] h (some (.int c)) h1 := by
  refine qt_Met.of (plainFor_of_name (by decide)) (Nat.le_of_ble_eq_true rfl) ?_
  have G : qg_i (some (.int c)) h1 ((c, h1)) := ⟨rfl, rfl⟩
  unfold m_X8_fact at E
  refine qt_aload_n 0 dX8_fact_0 rfl rfl ?_
  refine qt_getS 10 (wl_3 h) fe_RX8_18 rfl dX8_fact_1 ?_
  refine qt_iload_n 1 dX8_fact_4 rfl rfl ?_
  refine qt_iconst dX8_fact_5 ci_5 ?_
  refine qt_imul dX8_fact_6 ?_
  refine qt_iload_n 2 dX8_fact_7 rfl rfl ?_
  refine qt_iadd dX8_fact_8 ?_
  refine qt_iald (wl_10 h) dX8_fact_9 E (fun E => ?_)
  exact qt_ireturn rfl (Nat.le_of_ble_eq_true rfl) dX8_fact_10 E G
noncomputable def m_X11_notes (x1 : Int32) (x2 : Int32) (h : qa_M) : Option (Int32 × qa_M) :=
  qbn (m_X11_within x1 (h.1 3 1) h) (fun (c8 : Int32) (h8 : qa_M) =>
  if c8 = 0 then (
   some ((-2 : Int32), h8))
  else (
   qbn (m_X11_within x2 (5 : Int32) h8) (fun (c16 : Int32) (h16 : qa_M) =>
   if c16 = 0 then (
    some ((-2 : Int32), h16))
   else (
    qbn (m_X8_fact x1 x2 h16) (fun (c28 : Int32) (h28 : qa_M) =>
    some (c28, h28))))))
set_option maxRecDepth 20000 in
theorem c_X11_notes {l : Launch} {g : qa_G} {d : Nat} (x1 : Int32) (x2 : Int32) (h : qa_M) {c : Int32} {h1 : qa_M} (E : m_X11_notes x1 x2 h = some (c, h1)) : qt_Met l g (yX11_notes, cX11_notes, 3, (some .int)) (d + 1) 0 [.ref (g.1 + 0), .int x1, .int x2] h (some (.int c)) h1 := by
  refine qt_Met.of (plainFor_of_name (by decide)) (Nat.le_of_ble_eq_true rfl) ?_
  have G : qg_i (some (.int c)) h1 ((c, h1)) := ⟨rfl, rfl⟩
  unfold m_X11_notes at E
  refine qt_iload_n 1 dX11_notes_0 rfl rfl ?_
  refine qt_aload_n 0 dX11_notes_1 rfl rfl ?_
  refine qt_getS 3 (wl_0 h) fe_RX11_19 rfl dX11_notes_2 ?_
  refine qt_getI (wl_3 h) fe_RX11_115 rfl dX11_notes_5 ?_
  obtain ⟨c8, h8, e8, E⟩ := qbn_el E
  refine qt_callSi (b2 := 0) [.int x1, .int (h.1 3 1)] (c_X11_within x1 (h.1 3 1) h e8) cv_RX11_130 rfl (Nat.le_of_ble_eq_true rfl) (Nat.le_of_ble_eq_true rfl) dX11_notes_8 ?_
  refine qt_if_eq 34 dX11_notes_11 (by decide) E (fun E => ?_) (fun E => ?_)
  · refine qt_bipush dX11_notes_34 cb_m2 ?_
    exact qt_ireturn rfl (Nat.le_of_ble_eq_true rfl) dX11_notes_36 E G
  · refine qt_iload_n 2 dX11_notes_14 rfl rfl ?_
    refine qt_iconst dX11_notes_15 ci_5 ?_
    obtain ⟨c16, h16, e16, E⟩ := qbn_el E
    refine qt_callSi (b2 := 0) [.int x2, .int (5 : Int32)] (c_X11_within x2 (5 : Int32) h8 e16) cv_RX11_130 rfl (Nat.le_of_ble_eq_true rfl) (Nat.le_of_ble_eq_true rfl) dX11_notes_16 ?_
    refine qt_if_eq 34 dX11_notes_19 (by decide) E (fun E => ?_) (fun E => ?_)
    · refine qt_bipush dX11_notes_34 cb_m2 ?_
      exact qt_ireturn rfl (Nat.le_of_ble_eq_true rfl) dX11_notes_36 E G
    · refine qt_aload_n 0 dX11_notes_22 rfl rfl ?_
      refine qt_getS 3 (wl_0 h16) fe_RX11_19 rfl dX11_notes_23 ?_
      refine qt_iload_n 1 dX11_notes_26 rfl rfl ?_
      refine qt_iload_n 2 dX11_notes_27 rfl rfl ?_
      obtain ⟨c28, h28, e28, E⟩ := qbn_el E
      refine qt_callVi (b2 := 0) [.int x1, .int x2] (c_X8_fact x1 x2 h16 e28) cv_RX11_183 (wl_3 h16) rfl rfl rfl (Nat.le_of_ble_eq_true rfl) (Nat.le_of_ble_eq_true rfl) dX11_notes_28 ?_
      refine qt_goto 36 dX11_notes_31 (by decide) ?_
      exact qt_ireturn rfl (Nat.le_of_ble_eq_true rfl) dX11_notes_36 E G
noncomputable def m_X11_known (x1 : Int32) (h : qa_M) : Option (Int32 × qa_M) :=
  qbn (m_X3_told h) (fun (c7 : Int32) (h7 : qa_M) =>
  if c7 = 0 then (
   some ((0 : Int32), h7))
  else (
   qbn (m_X11_within x1 ((1 : Int32) <<< ((h7.1 3 1) &&& 31)) h7) (fun (c23 : Int32) (h23 : qa_M) =>
   if c23 = 0 then (
    some ((0 : Int32), h23))
   else (
    some ((1 : Int32), h23)))))
set_option maxRecDepth 20000 in
theorem c_X11_known {l : Launch} {g : qa_G} {d : Nat} (x1 : Int32) (h : qa_M) {c : Int32} {h1 : qa_M} (E : m_X11_known x1 h = some (c, h1)) : qt_Met l g (yX11_known, cX11_known, 2, (some .boolean)) (d + 1) 0 [.ref (g.1 + 0), .int x1] h (some (.int c)) h1 := by
  refine qt_Met.of (plainFor_of_name (by decide)) (Nat.le_of_ble_eq_true rfl) ?_
  have G : qg_i (some (.int c)) h1 ((c, h1)) := ⟨rfl, rfl⟩
  unfold m_X11_known at E
  refine qt_aload_n 0 dX11_known_0 rfl rfl ?_
  refine qt_getS 3 (wl_0 h) fe_RX11_19 rfl dX11_known_1 ?_
  refine qt_getS 4 (wl_3 h) fe_RX11_108 rfl dX11_known_4 ?_
  obtain ⟨c7, h7, e7, E⟩ := qbn_el E
  refine qt_callVi (b2 := 0) [] (c_X3_told h e7) cv_RX11_176 (wl_4 h) rfl rfl rfl (Nat.le_of_ble_eq_true rfl) (Nat.le_of_ble_eq_true rfl) dX11_known_7 ?_
  refine qt_if_eq 33 dX11_known_10 (by decide) E (fun E => ?_) (fun E => ?_)
  · refine qt_iconst dX11_known_33 ci_0 ?_
    exact qt_zreturn rfl (Or.inl rfl) (Nat.le_of_ble_eq_true rfl) dX11_known_34 E G
  · refine qt_iload_n 1 dX11_known_13 rfl rfl ?_
    refine qt_iconst dX11_known_14 ci_1 ?_
    refine qt_aload_n 0 dX11_known_15 rfl rfl ?_
    refine qt_getS 3 (wl_0 h7) fe_RX11_19 rfl dX11_known_16 ?_
    refine qt_getI (wl_3 h7) fe_RX11_115 rfl dX11_known_19 ?_
    refine qt_ishl dX11_known_22 ?_
    obtain ⟨c23, h23, e23, E⟩ := qbn_el E
    refine qt_callSi (b2 := 0) [.int x1, .int ((1 : Int32) <<< ((h7.1 3 1) &&& 31))] (c_X11_within x1 ((1 : Int32) <<< ((h7.1 3 1) &&& 31)) h7 e23) cv_RX11_130 rfl (Nat.le_of_ble_eq_true rfl) (Nat.le_of_ble_eq_true rfl) dX11_known_23 ?_
    refine qt_if_eq 33 dX11_known_26 (by decide) E (fun E => ?_) (fun E => ?_)
    · refine qt_iconst dX11_known_33 ci_0 ?_
      exact qt_zreturn rfl (Or.inl rfl) (Nat.le_of_ble_eq_true rfl) dX11_known_34 E G
    · refine qt_iconst dX11_known_29 ci_1 ?_
      refine qt_goto 34 dX11_known_30 (by decide) ?_
      exact qt_zreturn rfl (Or.inr rfl) (Nat.le_of_ble_eq_true rfl) dX11_known_34 E G
noncomputable def m_X3_open (h : qa_M) : Option (Int64 × qa_M) :=
  some (((h.2.1 4 6) &&& ((h.2.1 4 7) ^^^ (-1 : Int64))), h)
set_option maxRecDepth 20000 in
theorem c_X3_open {l : Launch} {g : qa_G} {d : Nat} (h : qa_M) {c : Int64} {h1 : qa_M} (E : m_X3_open h = some (c, h1)) : qt_Met l g (yX3_open, cX3_open, 1, (some .long)) d 0 [.ref (g.1 + 4)] h (some (.long c)) h1 := by
  refine qt_Met.of (plainFor_of_name (by decide)) (Nat.le_of_ble_eq_true rfl) ?_
  have G : qg_l (some (.long c)) h1 ((c, h1)) := ⟨rfl, rfl⟩
  unfold m_X3_open at E
  refine qt_aload_n 0 dX3_open_0 rfl rfl ?_
  refine qt_getJ (wl_4 h) fe_RX3_47 rfl dX3_open_1 ?_
  refine qt_aload_n 0 dX3_open_4 rfl rfl ?_
  refine qt_getJ (wl_4 h) fe_RX3_51 rfl dX3_open_5 ?_
  refine qt_ldc2 tb_749 dX3_open_8 ?_
  refine qt_lxor dX3_open_11 ?_
  refine qt_land dX3_open_12 ?_
  exact qt_lreturn rfl (Nat.le_of_ble_eq_true rfl) dX3_open_13 E G
noncomputable def m_X8_sort (x1 : Int32) (h : qa_M) : Option (Int32 × qa_M) :=
  qbn (m_X8_fact x1 (3 : Int32) h) (fun (c3 : Int32) (h3 : qa_M) =>
  some (c3, h3))
set_option maxRecDepth 20000 in
theorem c_X8_sort {l : Launch} {g : qa_G} {d : Nat} (x1 : Int32) (h : qa_M) {c : Int32} {h1 : qa_M} (E : m_X8_sort x1 h = some (c, h1)) : qt_Met l g (yX8_sort, cX8_sort, 2, (some .int)) (d + 1) 0 [.ref (g.1 + 3), .int x1] h (some (.int c)) h1 := by
  refine qt_Met.of (plainFor_of_name (by decide)) (Nat.le_of_ble_eq_true rfl) ?_
  have G : qg_i (some (.int c)) h1 ((c, h1)) := ⟨rfl, rfl⟩
  unfold m_X8_sort at E
  refine qt_aload_n 0 dX8_sort_0 rfl rfl ?_
  refine qt_iload_n 1 dX8_sort_1 rfl rfl ?_
  refine qt_iconst dX8_sort_2 ci_3 ?_
  obtain ⟨c3, h3, e3, E⟩ := qbn_el E
  refine qt_callVi (b2 := 0) [.int x1, .int (3 : Int32)] (c_X8_fact x1 (3 : Int32) h e3) cv_RX8_42 (wl_3 h) rfl rfl rfl (Nat.le_of_ble_eq_true rfl) (Nat.le_of_ble_eq_true rfl) dX8_sort_3 ?_
  exact qt_ireturn rfl (Nat.le_of_ble_eq_true rfl) dX8_sort_6 E G
noncomputable def m_X8_sure (x1 : Int32) (h : qa_M) : Option (Int32 × qa_M) :=
  qbn (m_X8_fact x1 (4 : Int32) h) (fun (c3 : Int32) (h3 : qa_M) =>
  some (c3, h3))
set_option maxRecDepth 20000 in
theorem c_X8_sure {l : Launch} {g : qa_G} {d : Nat} (x1 : Int32) (h : qa_M) {c : Int32} {h1 : qa_M} (E : m_X8_sure x1 h = some (c, h1)) : qt_Met l g (yX8_sure, cX8_sure, 2, (some .int)) (d + 1) 0 [.ref (g.1 + 3), .int x1] h (some (.int c)) h1 := by
  refine qt_Met.of (plainFor_of_name (by decide)) (Nat.le_of_ble_eq_true rfl) ?_
  have G : qg_i (some (.int c)) h1 ((c, h1)) := ⟨rfl, rfl⟩
  unfold m_X8_sure at E
  refine qt_aload_n 0 dX8_sure_0 rfl rfl ?_
  refine qt_iload_n 1 dX8_sure_1 rfl rfl ?_
  refine qt_iconst dX8_sure_2 ci_4 ?_
  obtain ⟨c3, h3, e3, E⟩ := qbn_el E
  refine qt_callVi (b2 := 0) [.int x1, .int (4 : Int32)] (c_X8_fact x1 (4 : Int32) h e3) cv_RX8_42 (wl_3 h) rfl rfl rfl (Nat.le_of_ble_eq_true rfl) (Nat.le_of_ble_eq_true rfl) dX8_sure_3 ?_
  exact qt_ireturn rfl (Nat.le_of_ble_eq_true rfl) dX8_sure_6 E G
noncomputable def m_X8_region (x1 : Int32) (h : qa_M) : Option (Int64 × qa_M) :=
  qbn (m_X8_fact x1 (2 : Int32) h) (fun (c3 : Int32) (h3 : qa_M) =>
  qbd c3 (fun v6 : Int32 =>
  qbn (m_X8_fact x1 (1 : Int32) h3) (fun (c10 : Int32) (h10 : qa_M) =>
  if c10 = 0 then (
   qck v6 8 (
   some (h10.2.1 7 v6.toNatClampNeg, h10)))
  else (
   qck v6 6 (
   some (h10.2.1 8 v6.toNatClampNeg, h10))))))
set_option maxRecDepth 20000 in
theorem c_X8_region {l : Launch} {g : qa_G} {d : Nat} (x1 : Int32) (h : qa_M) {c : Int64} {h1 : qa_M} (E : m_X8_region x1 h = some (c, h1)) : qt_Met l g (yX8_region, cX8_region, 3, (some .long)) (d + 1) 0 [.ref (g.1 + 3), .int x1] h (some (.long c)) h1 := by
  refine qt_Met.of (plainFor_of_name (by decide)) (Nat.le_of_ble_eq_true rfl) ?_
  have G : qg_l (some (.long c)) h1 ((c, h1)) := ⟨rfl, rfl⟩
  unfold m_X8_region at E
  refine qt_aload_n 0 dX8_region_0 rfl rfl ?_
  refine qt_iload_n 1 dX8_region_1 rfl rfl ?_
  refine qt_iconst dX8_region_2 ci_2 ?_
  obtain ⟨c3, h3, e3, E⟩ := qbn_el E
  refine qt_callVi (b2 := 0) [.int x1, .int (2 : Int32)] (c_X8_fact x1 (2 : Int32) h e3) cv_RX8_42 (wl_3 h) rfl rfl rfl (Nat.le_of_ble_eq_true rfl) (Nat.le_of_ble_eq_true rfl) dX8_region_3 ?_
  refine qt_istore_n (fun v6 => [(2, .int v6), (0, .ref (g.1 + 3)), (1, .int x1)]) dX8_region_6 rfl (Nat.le_of_ble_eq_true rfl) (fun _ => rfl) E (fun v6 E => ?_)
  refine qt_aload_n 1 dX8_region_7 rfl rfl ?_
  refine qt_iload_n 2 dX8_region_8 rfl rfl ?_
  refine qt_iconst dX8_region_9 ci_1 ?_
  obtain ⟨c10, h10, e10, E⟩ := qbn_el E
  refine qt_callVi (b2 := 0) [.int x1, .int (1 : Int32)] (c_X8_fact x1 (1 : Int32) h3 e10) cv_RX8_42 (wl_3 h3) rfl rfl rfl (Nat.le_of_ble_eq_true rfl) (Nat.le_of_ble_eq_true rfl) dX8_region_10 ?_
  refine qt_if_ne 28 dX8_region_13 (by decide) E (fun E => ?_) (fun E => ?_)
  · refine qt_aload_n 1 dX8_region_28 rfl rfl ?_
    refine qt_getS 4 (wl_3 h10) fe_RX8_12 rfl dX8_region_29 ?_
    refine qt_getS 8 (wl_4 h10) fe_RX8_50 rfl dX8_region_32 ?_
    refine qt_iload_n 0 dX8_region_35 rfl rfl ?_
    refine qt_lald (wl_8 h10) dX8_region_36 E (fun E => ?_)
    exact qt_lreturn rfl (Nat.le_of_ble_eq_true rfl) dX8_region_37 E G
  · refine qt_aload_n 1 dX8_region_16 rfl rfl ?_
    refine qt_getS 4 (wl_3 h10) fe_RX8_12 rfl dX8_region_17 ?_
    refine qt_getS 7 (wl_4 h10) fe_RX8_46 rfl dX8_region_20 ?_
    refine qt_iload_n 0 dX8_region_23 rfl rfl ?_
    refine qt_lald (wl_7 h10) dX8_region_24 E (fun E => ?_)
    refine qt_goto 37 dX8_region_25 (by decide) ?_
    exact qt_lreturn rfl (Nat.le_of_ble_eq_true rfl) dX8_region_37 E G
noncomputable def f_X7_heed_b52 (x1 : Int32) (x2 : Int32) (x3 : Int64) (x5 : Int32) (h : qa_M) : Option qa_M :=
  if x5 ≤ x2 then (
   some h)
  else (
   if (10 : Int32) ≤ (h.1 22 8) then (
    some h)
   else (
    qck (h.1 22 8) 10 (
    qbd (qw_J h 28 (h.1 22 8).toNatClampNeg x3) (fun h76 : qa_M =>
    qck (h76.1 22 8) 10 (
    qbd (qw_I h76 29 (h76.1 22 8).toNatClampNeg x1) (fun h86 : qa_M =>
    qck (h86.1 22 8) 10 (
    qbd (qw_I h86 30 (h86.1 22 8).toNatClampNeg x2) (fun h96 : qa_M =>
    qbd (qw_I h96 22 8 ((h96.1 22 8) + (1 : Int32))) (fun h104 : qa_M =>
    some h104)))))))))
set_option maxRecDepth 20000 in
theorem s_X7_heed_b52 {l : Launch} {g : qa_G} {d : Nat} {rz : Option Value} {hz : qa_M} (x1 : Int32) (x2 : Int32) (x3 : Int64) (x5 : Int32) (h : qa_M) {z : qa_M} (E : f_X7_heed_b52 x1 x2 x3 x5 h = some z) (G : (qg_v rz hz) z) : qt_At l g (yX7_heed, cX7_heed, 6, none) d 0 0 52 [(0, .ref (g.1 + 22)), (1, .int x1), (2, .int x2), (3, .long x3), (5, .int x5)] [] h rz hz := by
  unfold f_X7_heed_b52 at E
  refine qt_iload_n 2 dX7_heed_52 rfl rfl ?_
  refine qt_iload 4 dX7_heed_53 rfl ?_
  refine qt_icmp_ge 107 dX7_heed_55 (by decide) E (fun E => ?_) (fun E => ?_)
  · exact qt_vreturn rfl (Nat.le_of_ble_eq_true rfl) dX7_heed_107 E G
  · refine qt_aload_n 0 dX7_heed_58 rfl rfl ?_
    refine qt_getI (wl_22 h) fe_RX7_115 rfl dX7_heed_59 ?_
    refine qt_bipush dX7_heed_62 cb_10 ?_
    refine qt_icmp_ge 107 dX7_heed_64 (by decide) E (fun E => ?_) (fun E => ?_)
    · exact qt_vreturn rfl (Nat.le_of_ble_eq_true rfl) dX7_heed_107 E G
    · refine qt_aload_n 0 dX7_heed_67 rfl rfl ?_
      refine qt_getS 28 (wl_22 h) fe_RX7_28 rfl dX7_heed_68 ?_
      refine qt_aload_n 0 dX7_heed_71 rfl rfl ?_
      refine qt_getI (wl_22 h) fe_RX7_115 rfl dX7_heed_72 ?_
      refine qt_lload_n 3 dX7_heed_75 rfl rfl ?_
      refine qt_last (wl_28 h) dX7_heed_76 E (fun h76 E => ?_)
      refine qt_aload_n 0 dX7_heed_77 rfl rfl ?_
      refine qt_getS 29 (wl_22 h76) fe_RX7_31 rfl dX7_heed_78 ?_
      refine qt_aload_n 0 dX7_heed_81 rfl rfl ?_
      refine qt_getI (wl_22 h76) fe_RX7_115 rfl dX7_heed_82 ?_
      refine qt_iload_n 1 dX7_heed_85 rfl rfl ?_
      refine qt_iast (wl_29 h76) dX7_heed_86 E (fun h86 E => ?_)
      refine qt_aload_n 0 dX7_heed_87 rfl rfl ?_
      refine qt_getS 30 (wl_22 h86) fe_RX7_34 rfl dX7_heed_88 ?_
      refine qt_aload_n 0 dX7_heed_91 rfl rfl ?_
      refine qt_getI (wl_22 h86) fe_RX7_115 rfl dX7_heed_92 ?_
      refine qt_iload_n 2 dX7_heed_95 rfl rfl ?_
      refine qt_iast (wl_30 h86) dX7_heed_96 E (fun h96 E => ?_)
      refine qt_aload_n 0 dX7_heed_97 rfl rfl ?_
      refine qt_dup dX7_heed_98 rfl ?_
      refine qt_getI (wl_22 h96) fe_RX7_115 rfl dX7_heed_99 ?_
      refine qt_iconst dX7_heed_102 ci_1 ?_
      refine qt_iadd dX7_heed_103 ?_
      refine qt_putI (wl_22 h96) fd_RX7_115 rfl rfl rfl dX7_heed_104 E (fun h104 E => ?_)
      exact qt_vreturn rfl (Nat.le_of_ble_eq_true rfl) dX7_heed_107 E G
noncomputable def m_X7_heed (x1 : Int32) (x2 : Int32) (x3 : Int64) (h : qa_M) : Option qa_M :=
  qck x1 4 (
  qbd (h.1 9 x1.toNatClampNeg) (fun v12 : Int32 =>
  if x2 = 0 then (
   qck x1 4 (
   qck x1 4 (
   qbd (qw_J h 27 x1.toNatClampNeg ((h.2.1 27 x1.toNatClampNeg) &&& (x3 ^^^ (-1 : Int64)))) (fun h31 : qa_M =>
   some h31))))
  else (
   if 0 ≤ x2 then (
    f_X7_heed_b52 x1 x2 x3 v12 h)
   else (
    if v12 = 0 then (
     qbd (qw_I h 22 7 (1 : Int32)) (fun h46 : qa_M =>
     some h46))
    else (
     f_X7_heed_b52 x1 x2 x3 v12 h)))))
set_option maxRecDepth 20000 in
theorem c_X7_heed {l : Launch} {g : qa_G} {d : Nat} (x1 : Int32) (x2 : Int32) (x3 : Int64) (h : qa_M) {h1 : qa_M} (E : m_X7_heed x1 x2 x3 h = some h1) : qt_Met l g (yX7_heed, cX7_heed, 6, none) d 0 [.ref (g.1 + 22), .int x1, .int x2, .long x3] h none h1 := by
  refine qt_Met.of (plainFor_of_name (by decide)) (Nat.le_of_ble_eq_true rfl) ?_
  have G : qg_v none h1 (h1) := ⟨rfl, rfl⟩
  unfold m_X7_heed at E
  refine qt_aload_n 0 dX7_heed_0 rfl rfl ?_
  refine qt_getS 3 (wl_22 h) fe_RX7_46 rfl dX7_heed_1 ?_
  refine qt_getS 4 (wl_3 h) fe_RX7_56 rfl dX7_heed_4 ?_
  refine qt_getS 9 (wl_4 h) fe_RX7_71 rfl dX7_heed_7 ?_
  refine qt_iload_n 1 dX7_heed_10 rfl rfl ?_
  refine qt_iald (wl_9 h) dX7_heed_11 E (fun E => ?_)
  refine qt_istore (fun v12 => [(5, .int v12), (0, .ref (g.1 + 22)), (1, .int x1), (2, .int x2), (3, .long x3)]) dX7_heed_12 (Nat.le_of_ble_eq_true rfl) (fun _ => rfl) E (fun v12 E => ?_)
  refine qt_iload_n 3 dX7_heed_14 rfl rfl ?_
  refine qt_if_ne 35 dX7_heed_15 (by decide) E (fun E => ?_) (fun E => ?_)
  · refine qt_iload_n 3 dX7_heed_35 rfl rfl ?_
    refine qt_if_ge 52 dX7_heed_36 (by decide) E (fun E => ?_) (fun E => ?_)
    · exact qt_sub _ [1, 2, 3, 4, 0] rfl ((s_X7_heed_b52 x1 x2 x3 v12 h E G))
    · refine qt_iload 0 dX7_heed_39 rfl ?_
      refine qt_if_ne 52 dX7_heed_41 (by decide) E (fun E => ?_) (fun E => ?_)
      · exact qt_sub _ [1, 2, 3, 4, 0] rfl ((s_X7_heed_b52 x1 x2 x3 v12 h E G))
      · refine qt_aload_n 1 dX7_heed_44 rfl rfl ?_
        refine qt_iconst dX7_heed_45 ci_1 ?_
        refine qt_putI (wl_22 h) fd_RX7_111 rfl (qz_nar (Or.inr rfl)) (qz_fit (Or.inr rfl)) dX7_heed_46 E (fun h46 E => ?_)
        refine qt_goto 107 dX7_heed_49 (by decide) ?_
        exact qt_vreturn rfl (Nat.le_of_ble_eq_true rfl) dX7_heed_107 E G
  · refine qt_aload_n 1 dX7_heed_18 rfl rfl ?_
    refine qt_getS 27 (wl_22 h) fe_RX7_25 rfl dX7_heed_19 ?_
    refine qt_iload_n 2 dX7_heed_22 rfl rfl ?_
    refine qt_dup2_11 dX7_heed_23 rfl rfl ?_
    refine qt_lald (wl_27 h) dX7_heed_24 E (fun E => ?_)
    refine qt_lload_n 4 dX7_heed_25 rfl rfl ?_
    refine qt_ldc2 tb_996 dX7_heed_26 ?_
    refine qt_lxor dX7_heed_29 ?_
    refine qt_land dX7_heed_30 ?_
    refine qt_last (wl_27 h) dX7_heed_31 E (fun h31 E => ?_)
    refine qt_goto 107 dX7_heed_32 (by decide) ?_
    exact qt_vreturn rfl (Nat.le_of_ble_eq_true rfl) dX7_heed_107 E G
noncomputable def f_X7_roomByNotes_b149 (x4 : Int64) (x6 : Int32) (x7 : Int32) (x8 : Int64) (x10 : Int32) (h : qa_M) : Option ((Int64 × Int32 × Int32 × Int64 × Int32 × qa_M) ⊕ (Int64 × qa_M)) :=
  qbd (x10 + (1 : Int32)) (fun v149 : Int32 =>
  some (.inl (x4, x6, x7, x8, v149, h)))
set_option maxRecDepth 20000 in
theorem s_X7_roomByNotes_b149 {l : Launch} {g : qa_G} {d : Nat} {rz : Option Value} {hz : qa_M} (x4 : Int64) (x6 : Int32) (x7 : Int32) (x8 : Int64) (x10 : Int32) (h : qa_M) {z : ((Int64 × Int32 × Int32 × Int64 × Int32 × qa_M) ⊕ (Int64 × qa_M))} (E : f_X7_roomByNotes_b149 x4 x6 x7 x8 x10 h = some z) (G : (Sum.elim (fun (sz : Int64 × Int32 × Int32 × Int64 × Int32 × qa_M) => qt_At l g (yX7_roomByNotes, cX7_roomByNotes, 12, (some .long)) (d + 1) 0 0 44 [(0, .ref (g.1 + 22)), (4, .long sz.1), (6, .int sz.2.1), (7, .int sz.2.2.1), (8, .long sz.2.2.2.1), (10, .int sz.2.2.2.2.1)] [] sz.2.2.2.2.2 rz hz) (qg_l rz hz)) z) : qt_At l g (yX7_roomByNotes, cX7_roomByNotes, 12, (some .long)) (d + 1) 0 0 149 [(0, .ref (g.1 + 22)), (4, .long x4), (6, .int x6), (7, .int x7), (8, .long x8), (10, .int x10)] [] h rz hz := by
  unfold f_X7_roomByNotes_b149 at E
  refine qt_iinc 5 (fun v149 => [(10, .int v149), (0, .ref (g.1 + 22)), (4, .long x4), (6, .int x6), (7, .int x7), (8, .long x8)]) dX7_roomByNotes_149 rfl ci_1 (Nat.le_of_ble_eq_true rfl) (fun _ => rfl) E (fun v149 E => ?_)
  refine qt_goto 44 dX7_roomByNotes_152 (by decide) ?_
  cases E
  exact qt_sub _ [1, 2, 3, 4, 5, 0] rfl (G)
noncomputable def f_X7_roomByNotes_b121 (x4 : Int64) (x6 : Int32) (x7 : Int32) (x10 : Int32) (s0 : Int64) (s1 : Int64) (h : qa_M) : Option ((Int64 × Int32 × Int32 × Int64 × Int32 × qa_M) ⊕ (Int64 × qa_M)) :=
  qbd (s0 &&& s1) (fun v122 : Int64 =>
  f_X7_roomByNotes_b149 x4 x6 x7 v122 x10 h)
set_option maxRecDepth 20000 in
theorem s_X7_roomByNotes_b121 {l : Launch} {g : qa_G} {d : Nat} {rz : Option Value} {hz : qa_M} (x4 : Int64) (x6 : Int32) (x7 : Int32) (x10 : Int32) (s0 : Int64) (s1 : Int64) (h : qa_M) {z : ((Int64 × Int32 × Int32 × Int64 × Int32 × qa_M) ⊕ (Int64 × qa_M))} (E : f_X7_roomByNotes_b121 x4 x6 x7 x10 s0 s1 h = some z) (G : (Sum.elim (fun (sz : Int64 × Int32 × Int32 × Int64 × Int32 × qa_M) => qt_At l g (yX7_roomByNotes, cX7_roomByNotes, 12, (some .long)) (d + 1) 0 0 44 [(0, .ref (g.1 + 22)), (4, .long sz.1), (6, .int sz.2.1), (7, .int sz.2.2.1), (8, .long sz.2.2.2.1), (10, .int sz.2.2.2.2.1)] [] sz.2.2.2.2.2 rz hz) (qg_l rz hz)) z) : qt_At l g (yX7_roomByNotes, cX7_roomByNotes, 12, (some .long)) (d + 1) 0 0 121 [(0, .ref (g.1 + 22)), (4, .long x4), (6, .int x6), (7, .int x7), (10, .int x10)] [.long s1, .long s0] h rz hz := by
  unfold f_X7_roomByNotes_b121 at E
  refine qt_land dX7_roomByNotes_121 ?_
  refine qt_lstore (fun v122 => [(8, .long v122), (0, .ref (g.1 + 22)), (4, .long x4), (6, .int x6), (7, .int x7), (10, .int x10)]) dX7_roomByNotes_122 (Nat.le_of_ble_eq_true rfl) (fun _ => rfl) E (fun v122 E => ?_)
  refine qt_goto 149 dX7_roomByNotes_124 (by decide) ?_
  exact qt_sub _ [1, 2, 3, 4, 0, 5] rfl ((s_X7_roomByNotes_b149 x4 x6 x7 v122 x10 h E G))
noncomputable def f_X7_roomByNotes_b44 (x4 : Int64) (x6 : Int32) (x7 : Int32) (x8 : Int64) (x10 : Int32) (h : qa_M) : Option ((Int64 × Int32 × Int32 × Int64 × Int32 × qa_M) ⊕ (Int64 × qa_M)) :=
  if (h.1 22 8) ≤ x10 then (
   qup (some (x8, h)))
  else (
   qck x10 10 (
   if (h.1 29 x10.toNatClampNeg) = x6 then (
    qck x10 10 (
    qbn (m_J13_bitCount_95d88 ((h.2.1 28 x10.toNatClampNeg) &&& x4) h) (fun (c75 : Int32) (h75 : qa_M) =>
    qbd c75 (fun v78 : Int32 =>
    qck x10 10 (
    if (h75.1 30 x10.toNatClampNeg) ≤ 0 then (
     if x7 = 0 then (
      f_X7_roomByNotes_b149 x4 x6 x7 x8 x10 h75)
     else (
      if v78 = 0 then (
       qck x10 10 (
       qbd (x8 &&& (h75.2.1 28 x10.toNatClampNeg)) (fun v147 : Int64 =>
       f_X7_roomByNotes_b149 x4 x6 x7 v147 x10 h75)))
      else (
       f_X7_roomByNotes_b149 x4 x6 x7 x8 x10 h75)))
    else (
     qck x10 10 (
     if v78 < (h75.1 30 x10.toNatClampNeg) then (
      f_X7_roomByNotes_b121 x4 x6 x7 x10 x8 (-1 : Int64) h75)
     else (
      qck x10 10 (
      f_X7_roomByNotes_b121 x4 x6 x7 x10 x8 ((h75.2.1 28 x10.toNatClampNeg) ^^^ (-1 : Int64)) h75)))))))))
   else (
    f_X7_roomByNotes_b149 x4 x6 x7 x8 x10 h)))
set_option maxRecDepth 20000 in
theorem s_X7_roomByNotes_b44 {l : Launch} {g : qa_G} {d : Nat} {rz : Option Value} {hz : qa_M} (x4 : Int64) (x6 : Int32) (x7 : Int32) (x8 : Int64) (x10 : Int32) (h : qa_M) {z : ((Int64 × Int32 × Int32 × Int64 × Int32 × qa_M) ⊕ (Int64 × qa_M))} (E : f_X7_roomByNotes_b44 x4 x6 x7 x8 x10 h = some z) (G : (Sum.elim (fun (sz : Int64 × Int32 × Int32 × Int64 × Int32 × qa_M) => qt_At l g (yX7_roomByNotes, cX7_roomByNotes, 12, (some .long)) (d + 1) 0 0 44 [(0, .ref (g.1 + 22)), (4, .long sz.1), (6, .int sz.2.1), (7, .int sz.2.2.1), (8, .long sz.2.2.2.1), (10, .int sz.2.2.2.2.1)] [] sz.2.2.2.2.2 rz hz) (qg_l rz hz)) z) : qt_At l g (yX7_roomByNotes, cX7_roomByNotes, 12, (some .long)) (d + 1) 0 0 44 [(0, .ref (g.1 + 22)), (4, .long x4), (6, .int x6), (7, .int x7), (8, .long x8), (10, .int x10)] [] h rz hz := by
  unfold f_X7_roomByNotes_b44 at E
  refine qt_iload 5 dX7_roomByNotes_44 rfl ?_
  refine qt_aload_n 0 dX7_roomByNotes_46 rfl rfl ?_
  refine qt_getI (wl_22 h) fe_RX7_115 rfl dX7_roomByNotes_47 ?_
  refine qt_icmp_ge 155 dX7_roomByNotes_50 (by decide) E (fun E => ?_) (fun E => ?_)
  · refine qt_lload 4 dX7_roomByNotes_155 rfl ?_
    obtain ⟨z0_, E, G⟩ := qup_g E G
    exact qt_lreturn rfl (Nat.le_of_ble_eq_true rfl) dX7_roomByNotes_157 E G
  · refine qt_aload_n 0 dX7_roomByNotes_53 rfl rfl ?_
    refine qt_getS 29 (wl_22 h) fe_RX7_31 rfl dX7_roomByNotes_54 ?_
    refine qt_iload 5 dX7_roomByNotes_57 rfl ?_
    refine qt_iald (wl_29 h) dX7_roomByNotes_59 E (fun E => ?_)
    refine qt_iload 2 dX7_roomByNotes_60 rfl ?_
    refine qt_icmp_ne 149 dX7_roomByNotes_62 (by decide) E (fun E => ?_) (fun E => ?_)
    · exact qt_sub _ [0, 1, 2, 3, 4, 5] rfl ((s_X7_roomByNotes_b149 x4 x6 x7 x8 x10 h E G))
    · refine qt_aload_n 0 dX7_roomByNotes_65 rfl rfl ?_
      refine qt_getS 28 (wl_22 h) fe_RX7_28 rfl dX7_roomByNotes_66 ?_
      refine qt_iload 5 dX7_roomByNotes_69 rfl ?_
      refine qt_lald (wl_28 h) dX7_roomByNotes_71 E (fun E => ?_)
      refine qt_lload 1 dX7_roomByNotes_72 rfl ?_
      refine qt_land dX7_roomByNotes_74 ?_
      obtain ⟨c75, h75, e75, E⟩ := qbn_el E
      refine qt_callSi (b2 := 0) [.long ((h.2.1 28 x10.toNatClampNeg) &&& x4)] (c_J13_bitCount_95d88 ((h.2.1 28 x10.toNatClampNeg) &&& x4) h e75) cv_RX7_162 rfl (Nat.le_of_ble_eq_true rfl) (Nat.le_of_ble_eq_true rfl) dX7_roomByNotes_75 ?_
      refine qt_istore (fun v78 => [(11, .int v78), (0, .ref (g.1 + 22)), (4, .long x4), (6, .int x6), (7, .int x7), (8, .long x8), (10, .int x10)]) dX7_roomByNotes_78 (Nat.le_of_ble_eq_true rfl) (fun _ => rfl) E (fun v78 E => ?_)
      refine qt_aload_n 1 dX7_roomByNotes_80 rfl rfl ?_
      refine qt_getS 30 (wl_22 h75) fe_RX7_34 rfl dX7_roomByNotes_81 ?_
      refine qt_iload 6 dX7_roomByNotes_84 rfl ?_
      refine qt_iald (wl_30 h75) dX7_roomByNotes_86 E (fun E => ?_)
      refine qt_if_le 127 dX7_roomByNotes_87 (by decide) E (fun E => ?_) (fun E => ?_)
      · refine qt_iload 4 dX7_roomByNotes_127 rfl ?_
        refine qt_if_eq 149 dX7_roomByNotes_129 (by decide) E (fun E => ?_) (fun E => ?_)
        · exact qt_sub _ [1, 2, 3, 4, 5, 6] rfl ((s_X7_roomByNotes_b149 x4 x6 x7 x8 x10 h75 E G))
        · refine qt_iload 0 dX7_roomByNotes_132 rfl ?_
          refine qt_if_ne 149 dX7_roomByNotes_134 (by decide) E (fun E => ?_) (fun E => ?_)
          · exact qt_sub _ [1, 2, 3, 4, 5, 6] rfl ((s_X7_roomByNotes_b149 x4 x6 x7 x8 x10 h75 E G))
          · refine qt_lload 5 dX7_roomByNotes_137 rfl ?_
            refine qt_aload_n 1 dX7_roomByNotes_139 rfl rfl ?_
            refine qt_getS 28 (wl_22 h75) fe_RX7_28 rfl dX7_roomByNotes_140 ?_
            refine qt_iload 6 dX7_roomByNotes_143 rfl ?_
            refine qt_lald (wl_28 h75) dX7_roomByNotes_145 E (fun E => ?_)
            refine qt_land dX7_roomByNotes_146 ?_
            refine qt_lstore (fun v147 => [(8, .long v147), (11, .int v78), (0, .ref (g.1 + 22)), (4, .long x4), (6, .int x6), (7, .int x7), (10, .int x10)]) dX7_roomByNotes_147 (Nat.le_of_ble_eq_true rfl) (fun _ => rfl) E (fun v147 E => ?_)
            exact qt_sub _ [2, 3, 4, 5, 0, 6] rfl ((s_X7_roomByNotes_b149 x4 x6 x7 v147 x10 h75 E G))
      · refine qt_lload 5 dX7_roomByNotes_90 rfl ?_
        refine qt_iload 0 dX7_roomByNotes_92 rfl ?_
        refine qt_aload_n 1 dX7_roomByNotes_94 rfl rfl ?_
        refine qt_getS 30 (wl_22 h75) fe_RX7_34 rfl dX7_roomByNotes_95 ?_
        refine qt_iload 6 dX7_roomByNotes_98 rfl ?_
        refine qt_iald (wl_30 h75) dX7_roomByNotes_100 E (fun E => ?_)
        refine qt_icmp_lt 118 dX7_roomByNotes_101 (by decide) E (fun E => ?_) (fun E => ?_)
        · refine qt_ldc2 tb_996 dX7_roomByNotes_118 ?_
          exact qt_sub _ [1, 2, 3, 4, 6] rfl ((s_X7_roomByNotes_b121 x4 x6 x7 x10 x8 (-1 : Int64) h75 E G))
        · refine qt_aload_n 1 dX7_roomByNotes_104 rfl rfl ?_
          refine qt_getS 28 (wl_22 h75) fe_RX7_28 rfl dX7_roomByNotes_105 ?_
          refine qt_iload 6 dX7_roomByNotes_108 rfl ?_
          refine qt_lald (wl_28 h75) dX7_roomByNotes_110 E (fun E => ?_)
          refine qt_ldc2 tb_996 dX7_roomByNotes_111 ?_
          refine qt_lxor dX7_roomByNotes_114 ?_
          refine qt_goto 121 dX7_roomByNotes_115 (by decide) ?_
          exact qt_sub _ [1, 2, 3, 4, 6] rfl ((s_X7_roomByNotes_b121 x4 x6 x7 x10 x8 ((h75.2.1 28 x10.toNatClampNeg) ^^^ (-1 : Int64)) h75 E G))
noncomputable def f_X7_roomByNotes_b44_loop (x4 : Int64) (x6 : Int32) (x7 : Int32) (x8 : Int64) (x10 : Int32) (h : qa_M) : Option (Int64 × qa_M) := qlp (fun sz : Int64 × Int32 × Int32 × Int64 × Int32 × qa_M => f_X7_roomByNotes_b44 sz.1 sz.2.1 sz.2.2.1 sz.2.2.2.1 sz.2.2.2.2.1 sz.2.2.2.2.2) (x4, x6, x7, x8, x10, h)
theorem s_X7_roomByNotes_b44_loop {l : Launch} {g : qa_G} {d : Nat} {rz : Option Value} {hz : qa_M} (x4 : Int64) (x6 : Int32) (x7 : Int32) (x8 : Int64) (x10 : Int32) (h : qa_M) {z : (Int64 × qa_M)} (E : f_X7_roomByNotes_b44_loop x4 x6 x7 x8 x10 h = some z) (G : (qg_l rz hz) z) : qt_At l g (yX7_roomByNotes, cX7_roomByNotes, 12, (some .long)) (d + 1) 0 0 44 [(0, .ref (g.1 + 22)), (4, .long x4), (6, .int x6), (7, .int x7), (8, .long x8), (10, .int x10)] [] h rz hz :=
  qlp_ind (fun sz : Int64 × Int32 × Int32 × Int64 × Int32 × qa_M => qt_At l g (yX7_roomByNotes, cX7_roomByNotes, 12, (some .long)) (d + 1) 0 0 44 [(0, .ref (g.1 + 22)), (4, .long sz.1), (6, .int sz.2.1), (7, .int sz.2.2.1), (8, .long sz.2.2.2.1), (10, .int sz.2.2.2.2.1)] [] sz.2.2.2.2.2 rz hz) (fun sz E => s_X7_roomByNotes_b44 sz.1 sz.2.1 sz.2.2.1 sz.2.2.2.1 sz.2.2.2.2.1 sz.2.2.2.2.2 E G) (fun sz sz2 E ih => s_X7_roomByNotes_b44 sz.1 sz.2.1 sz.2.2.1 sz.2.2.2.1 sz.2.2.2.2.1 sz.2.2.2.2.2 E ih) (x4, x6, x7, x8, x10, h) E
noncomputable def f_X7_roomByNotes_b36 (x1 : Int64) (x4 : Int64) (x6 : Int32) (s0 : Int32) (h : qa_M) : Option (Int64 × qa_M) :=
  qbd s0 (fun v36 : Int32 =>
  qbd x1 (fun v39 : Int64 =>
  qbd (0 : Int32) (fun v42 : Int32 =>
  f_X7_roomByNotes_b44_loop x4 x6 v36 v39 v42 h)))
set_option maxRecDepth 20000 in
theorem s_X7_roomByNotes_b36 {l : Launch} {g : qa_G} {d : Nat} {rz : Option Value} {hz : qa_M} (x1 : Int64) (x4 : Int64) (x6 : Int32) (s0 : Int32) (h : qa_M) {z : (Int64 × qa_M)} (E : f_X7_roomByNotes_b36 x1 x4 x6 s0 h = some z) (G : (qg_l rz hz) z) : qt_At l g (yX7_roomByNotes, cX7_roomByNotes, 12, (some .long)) (d + 1) 0 0 36 [(0, .ref (g.1 + 22)), (1, .long x1), (4, .long x4), (6, .int x6)] [.int s0] h rz hz := by
  unfold f_X7_roomByNotes_b36 at E
  refine qt_istore (fun v36 => [(7, .int v36), (0, .ref (g.1 + 22)), (1, .long x1), (4, .long x4), (6, .int x6)]) dX7_roomByNotes_36 (Nat.le_of_ble_eq_true rfl) (fun _ => rfl) E (fun v36 E => ?_)
  refine qt_lload_n 2 dX7_roomByNotes_38 rfl rfl ?_
  refine qt_lstore (fun v39 => [(8, .long v39), (7, .int v36), (0, .ref (g.1 + 22)), (1, .long x1), (4, .long x4), (6, .int x6)]) dX7_roomByNotes_39 (Nat.le_of_ble_eq_true rfl) (fun _ => rfl) E (fun v39 E => ?_)
  refine qt_iconst dX7_roomByNotes_41 ci_0 ?_
  refine qt_istore (fun v42 => [(10, .int v42), (8, .long v39), (7, .int v36), (0, .ref (g.1 + 22)), (1, .long x1), (4, .long x4), (6, .int x6)]) dX7_roomByNotes_42 (Nat.le_of_ble_eq_true rfl) (fun _ => rfl) E (fun v42 E => ?_)
  exact qt_sub _ [3, 5, 6, 2, 1, 0] rfl ((s_X7_roomByNotes_b44_loop x4 x6 v36 v39 v42 h E G))
noncomputable def f_X7_roomByNotes_b31 (x1 : Int64) (x4 : Int64) (x6 : Int32) (h : qa_M) : Option (Int64 × qa_M) :=
  f_X7_roomByNotes_b36 x1 x4 x6 (1 : Int32) h
set_option maxRecDepth 20000 in
theorem s_X7_roomByNotes_b31 {l : Launch} {g : qa_G} {d : Nat} {rz : Option Value} {hz : qa_M} (x1 : Int64) (x4 : Int64) (x6 : Int32) (h : qa_M) {z : (Int64 × qa_M)} (E : f_X7_roomByNotes_b31 x1 x4 x6 h = some z) (G : (qg_l rz hz) z) : qt_At l g (yX7_roomByNotes, cX7_roomByNotes, 12, (some .long)) (d + 1) 0 0 31 [(0, .ref (g.1 + 22)), (1, .long x1), (4, .long x4), (6, .int x6)] [] h rz hz := by
  unfold f_X7_roomByNotes_b31 at E
  refine qt_iconst dX7_roomByNotes_31 ci_1 ?_
  refine qt_goto 36 dX7_roomByNotes_32 (by decide) ?_
  exact qt_sub _ [0, 1, 2, 3] rfl ((s_X7_roomByNotes_b36 x1 x4 x6 (1 : Int32) h E G))
noncomputable def m_X7_roomByNotes (x1 : Int64) (x3 : Int32) (x4 : Int64) (h : qa_M) : Option (Int64 × qa_M) :=
  qck x3 4 (
  qbd (h.1 26 x3.toNatClampNeg) (fun v6 : Int32 =>
  if (x3 + (1 : Int32)) = (h.1 22 4) then (
   f_X7_roomByNotes_b31 x1 x4 v6 h)
  else (
   qck (x3 + (1 : Int32)) 4 (
   if (h.1 26 (x3 + (1 : Int32)).toNatClampNeg) = v6 then (
    f_X7_roomByNotes_b36 x1 x4 v6 (0 : Int32) h)
   else (
    f_X7_roomByNotes_b31 x1 x4 v6 h)))))
set_option maxRecDepth 20000 in
theorem c_X7_roomByNotes {l : Launch} {g : qa_G} {d : Nat} (x1 : Int64) (x3 : Int32) (x4 : Int64) (h : qa_M) {c : Int64} {h1 : qa_M} (E : m_X7_roomByNotes x1 x3 x4 h = some (c, h1)) : qt_Met l g (yX7_roomByNotes, cX7_roomByNotes, 12, (some .long)) (d + 1) 0 [.ref (g.1 + 22), .long x1, .int x3, .long x4] h (some (.long c)) h1 := by
  refine qt_Met.of (plainFor_of_name (by decide)) (Nat.le_of_ble_eq_true rfl) ?_
  have G : qg_l (some (.long c)) h1 ((c, h1)) := ⟨rfl, rfl⟩
  unfold m_X7_roomByNotes at E
  refine qt_aload_n 0 dX7_roomByNotes_0 rfl rfl ?_
  refine qt_getS 26 (wl_22 h) fe_RX7_22 rfl dX7_roomByNotes_1 ?_
  refine qt_iload_n 2 dX7_roomByNotes_4 rfl rfl ?_
  refine qt_iald (wl_26 h) dX7_roomByNotes_5 E (fun E => ?_)
  refine qt_istore (fun v6 => [(6, .int v6), (0, .ref (g.1 + 22)), (1, .long x1), (3, .int x3), (4, .long x4)]) dX7_roomByNotes_6 (Nat.le_of_ble_eq_true rfl) (fun _ => rfl) E (fun v6 E => ?_)
  refine qt_iload_n 3 dX7_roomByNotes_8 rfl rfl ?_
  refine qt_iconst dX7_roomByNotes_9 ci_1 ?_
  refine qt_iadd dX7_roomByNotes_10 ?_
  refine qt_aload_n 1 dX7_roomByNotes_11 rfl rfl ?_
  refine qt_getI (wl_22 h) fe_RX7_62 rfl dX7_roomByNotes_12 ?_
  refine qt_icmp_eq 31 dX7_roomByNotes_15 (by decide) E (fun E => ?_) (fun E => ?_)
  · exact qt_sub _ [1, 2, 4, 0] rfl ((s_X7_roomByNotes_b31 x1 x4 v6 h E G))
  · refine qt_aload_n 1 dX7_roomByNotes_18 rfl rfl ?_
    refine qt_getS 26 (wl_22 h) fe_RX7_22 rfl dX7_roomByNotes_19 ?_
    refine qt_iload_n 3 dX7_roomByNotes_22 rfl rfl ?_
    refine qt_iconst dX7_roomByNotes_23 ci_1 ?_
    refine qt_iadd dX7_roomByNotes_24 ?_
    refine qt_iald (wl_26 h) dX7_roomByNotes_25 E (fun E => ?_)
    refine qt_iload 0 dX7_roomByNotes_26 rfl ?_
    refine qt_icmp_eq 35 dX7_roomByNotes_28 (by decide) E (fun E => ?_) (fun E => ?_)
    · refine qt_iconst dX7_roomByNotes_35 ci_0 ?_
      exact qt_sub _ [1, 2, 4, 0] rfl ((s_X7_roomByNotes_b36 x1 x4 v6 (0 : Int32) h E G))
    · exact qt_sub _ [1, 2, 4, 0] rfl ((s_X7_roomByNotes_b31 x1 x4 v6 h E G))
noncomputable def f_X7_room_b131 (x3 : Int64) (h : qa_M) : Option (Int64 × qa_M) :=
  some (x3, h)
set_option maxRecDepth 20000 in
theorem s_X7_room_b131 {l : Launch} {g : qa_G} {d : Nat} {rz : Option Value} {hz : qa_M} (x3 : Int64) (h : qa_M) {z : (Int64 × qa_M)} (E : f_X7_room_b131 x3 h = some z) (G : (qg_l rz hz) z) : qt_At l g (yX7_room, cX7_room, 8, (some .long)) (d + 2) 0 0 131 [(3, .long x3)] [] h rz hz := by
  unfold f_X7_room_b131 at E
  refine qt_lload_n 0 dX7_room_131 rfl rfl ?_
  refine qt_goto 143 dX7_room_132 (by decide) ?_
  exact qt_lreturn rfl (Nat.le_of_ble_eq_true rfl) dX7_room_143 E G
noncomputable def f_X7_room_b118 (x1 : Int32) (x3 : Int64) (x5 : Int64) (h : qa_M) : Option (Int64 × qa_M) :=
  if (h.1 22 8) = 0 then (
   f_X7_room_b131 x3 h)
  else (
   if x3 = (0 : Int64) then (
    f_X7_room_b131 x3 h)
   else (
    qbn (m_X7_roomByNotes x3 x1 x5 h) (fun (c140 : Int64) (h140 : qa_M) =>
    some (c140, h140))))
set_option maxRecDepth 20000 in
theorem s_X7_room_b118 {l : Launch} {g : qa_G} {d : Nat} {rz : Option Value} {hz : qa_M} (x1 : Int32) (x3 : Int64) (x5 : Int64) (h : qa_M) {z : (Int64 × qa_M)} (E : f_X7_room_b118 x1 x3 x5 h = some z) (G : (qg_l rz hz) z) : qt_At l g (yX7_room, cX7_room, 8, (some .long)) (d + 2) 0 0 118 [(0, .ref (g.1 + 22)), (1, .int x1), (3, .long x3), (5, .long x5)] [] h rz hz := by
  unfold f_X7_room_b118 at E
  refine qt_aload_n 0 dX7_room_118 rfl rfl ?_
  refine qt_getI (wl_22 h) fe_RX7_115 rfl dX7_room_119 ?_
  refine qt_if_eq 131 dX7_room_122 (by decide) E (fun E => ?_) (fun E => ?_)
  · exact qt_sub _ [2] rfl ((s_X7_room_b131 x3 h E G))
  · refine qt_lload_n 2 dX7_room_125 rfl rfl ?_
    refine qt_lconst dX7_room_126 cl_0 ?_
    refine qt_lc_ne 135 dX7_room_127 dX7_room_128 (by decide) E (fun E => ?_) (fun E => ?_)
    · refine qt_aload_n 0 dX7_room_135 rfl rfl ?_
      refine qt_lload_n 2 dX7_room_136 rfl rfl ?_
      refine qt_iload_n 1 dX7_room_137 rfl rfl ?_
      refine qt_lload 3 dX7_room_138 rfl ?_
      obtain ⟨c140, h140, e140, E⟩ := qbn_el E
      refine qt_callVl (b2 := 0) [.long x3, .int x1, .long x5] (c_X7_roomByNotes x3 x1 x5 h e140) cv_RX7_158 (wl_22 h) rfl rfl rfl (Nat.le_of_ble_eq_true rfl) (Nat.le_of_ble_eq_true rfl) dX7_room_140 ?_
      exact qt_lreturn rfl (Nat.le_of_ble_eq_true rfl) dX7_room_143 E G
    · exact qt_sub _ [2] rfl ((s_X7_room_b131 x3 h E G))
noncomputable def f_X7_room_b96 (x1 : Int32) (x3 : Int64) (x5 : Int64) (h : qa_M) : Option (Int64 × qa_M) :=
  if x5 = (0 : Int64) then (
   f_X7_room_b118 x1 x3 x5 h)
  else (
   qck (x1 - (1 : Int32)) 4 (
   qbd (x3 &&& (q_lshl (-2 : Int64) (h.1 31 (x1 - (1 : Int32)).toNatClampNeg))) (fun v117 : Int64 =>
   f_X7_room_b118 x1 v117 x5 h)))
set_option maxRecDepth 20000 in
theorem s_X7_room_b96 {l : Launch} {g : qa_G} {d : Nat} {rz : Option Value} {hz : qa_M} (x1 : Int32) (x3 : Int64) (x5 : Int64) (h : qa_M) {z : (Int64 × qa_M)} (E : f_X7_room_b96 x1 x3 x5 h = some z) (G : (qg_l rz hz) z) : qt_At l g (yX7_room, cX7_room, 8, (some .long)) (d + 2) 0 0 96 [(0, .ref (g.1 + 22)), (1, .int x1), (3, .long x3), (5, .long x5)] [] h rz hz := by
  unfold f_X7_room_b96 at E
  refine qt_lload 3 dX7_room_96 rfl ?_
  refine qt_lconst dX7_room_98 cl_0 ?_
  refine qt_lc_eq 118 dX7_room_99 dX7_room_100 (by decide) E (fun E => ?_) (fun E => ?_)
  · exact qt_sub _ [0, 1, 2, 3] rfl ((s_X7_room_b118 x1 x3 x5 h E G))
  · refine qt_lload_n 2 dX7_room_103 rfl rfl ?_
    refine qt_ldc2 tb_1019 dX7_room_104 ?_
    refine qt_aload_n 0 dX7_room_107 rfl rfl ?_
    refine qt_getS 31 (wl_22 h) fe_RX7_37 rfl dX7_room_108 ?_
    refine qt_iload_n 1 dX7_room_111 rfl rfl ?_
    refine qt_iconst dX7_room_112 ci_1 ?_
    refine qt_isub dX7_room_113 ?_
    refine qt_iald (wl_31 h) dX7_room_114 E (fun E => ?_)
    refine qt_lshl dX7_room_115 ?_
    refine qt_land dX7_room_116 ?_
    refine qt_lstore_n (fun v117 => [(3, .long v117), (0, .ref (g.1 + 22)), (1, .int x1), (5, .long x5)]) dX7_room_117 rfl (Nat.le_of_ble_eq_true rfl) (fun _ => rfl) E (fun v117 E => ?_)
    exact qt_sub _ [1, 2, 0, 3] rfl ((s_X7_room_b118 x1 v117 x5 h E G))
noncomputable def f_X7_room_b90 (x1 : Int32) (x2 : Int32) (x3 : Int64) (x5 : Int64) (x7 : Int32) (h : qa_M) : Option ((Int32 × Int32 × Int64 × Int64 × Int32 × qa_M) ⊕ (Int64 × qa_M)) :=
  qbd (x7 + (1 : Int32)) (fun v90 : Int32 =>
  some (.inl (x1, x2, x3, x5, v90, h)))
set_option maxRecDepth 20000 in
theorem s_X7_room_b90 {l : Launch} {g : qa_G} {d : Nat} {rz : Option Value} {hz : qa_M} (x1 : Int32) (x2 : Int32) (x3 : Int64) (x5 : Int64) (x7 : Int32) (h : qa_M) {z : ((Int32 × Int32 × Int64 × Int64 × Int32 × qa_M) ⊕ (Int64 × qa_M))} (E : f_X7_room_b90 x1 x2 x3 x5 x7 h = some z) (G : (Sum.elim (fun (sz : Int32 × Int32 × Int64 × Int64 × Int32 × qa_M) => qt_At l g (yX7_room, cX7_room, 8, (some .long)) (d + 2) 0 0 20 [(0, .ref (g.1 + 22)), (1, .int sz.1), (2, .int sz.2.1), (3, .long sz.2.2.1), (5, .long sz.2.2.2.1), (7, .int sz.2.2.2.2.1)] [] sz.2.2.2.2.2 rz hz) (qg_l rz hz)) z) : qt_At l g (yX7_room, cX7_room, 8, (some .long)) (d + 2) 0 0 90 [(0, .ref (g.1 + 22)), (1, .int x1), (2, .int x2), (3, .long x3), (5, .long x5), (7, .int x7)] [] h rz hz := by
  unfold f_X7_room_b90 at E
  refine qt_iinc 5 (fun v90 => [(7, .int v90), (0, .ref (g.1 + 22)), (1, .int x1), (2, .int x2), (3, .long x3), (5, .long x5)]) dX7_room_90 rfl ci_1 (Nat.le_of_ble_eq_true rfl) (fun _ => rfl) E (fun v90 E => ?_)
  refine qt_goto 20 dX7_room_93 (by decide) ?_
  cases E
  exact qt_sub _ [1, 2, 3, 4, 5, 0] rfl (G)
noncomputable def f_X7_room_b20 (x1 : Int32) (x2 : Int32) (x3 : Int64) (x5 : Int64) (x7 : Int32) (h : qa_M) : Option ((Int32 × Int32 × Int64 × Int64 × Int32 × qa_M) ⊕ (Int64 × qa_M)) :=
  if x1 ≤ x7 then (
   qup (f_X7_room_b96 x1 x3 x5 h))
  else (
   qck x7 4 (
   qck (((h.1 26 x7.toNatClampNeg) * (4 : Int32)) + x2) 16 (
   qck x7 4 (
   qck (((h.1 25 (((h.1 26 x7.toNatClampNeg) * (4 : Int32)) + x2).toNatClampNeg) * (36 : Int32)) + (h.1 31 x7.toNatClampNeg)) 216 (
   qbd (x3 &&& ((h.2.1 23 (((h.1 25 (((h.1 26 x7.toNatClampNeg) * (4 : Int32)) + x2).toNatClampNeg) * (36 : Int32)) + (h.1 31 x7.toNatClampNeg)).toNatClampNeg) ^^^ (-1 : Int64))) (fun v64 : Int64 =>
   qck x7 4 (
   if (h.1 26 x7.toNatClampNeg) = x2 then (
    qck x7 4 (
    qbd (x5 ||| (q_lshl (1 : Int64) (h.1 31 x7.toNatClampNeg))) (fun v88 : Int64 =>
    f_X7_room_b90 x1 x2 v64 v88 x7 h)))
   else (
    f_X7_room_b90 x1 x2 v64 x5 x7 h))))))))
set_option maxRecDepth 20000 in
theorem s_X7_room_b20 {l : Launch} {g : qa_G} {d : Nat} {rz : Option Value} {hz : qa_M} (x1 : Int32) (x2 : Int32) (x3 : Int64) (x5 : Int64) (x7 : Int32) (h : qa_M) {z : ((Int32 × Int32 × Int64 × Int64 × Int32 × qa_M) ⊕ (Int64 × qa_M))} (E : f_X7_room_b20 x1 x2 x3 x5 x7 h = some z) (G : (Sum.elim (fun (sz : Int32 × Int32 × Int64 × Int64 × Int32 × qa_M) => qt_At l g (yX7_room, cX7_room, 8, (some .long)) (d + 2) 0 0 20 [(0, .ref (g.1 + 22)), (1, .int sz.1), (2, .int sz.2.1), (3, .long sz.2.2.1), (5, .long sz.2.2.2.1), (7, .int sz.2.2.2.2.1)] [] sz.2.2.2.2.2 rz hz) (qg_l rz hz)) z) : qt_At l g (yX7_room, cX7_room, 8, (some .long)) (d + 2) 0 0 20 [(0, .ref (g.1 + 22)), (1, .int x1), (2, .int x2), (3, .long x3), (5, .long x5), (7, .int x7)] [] h rz hz := by
  unfold f_X7_room_b20 at E
  refine qt_iload 5 dX7_room_20 rfl ?_
  refine qt_iload_n 1 dX7_room_22 rfl rfl ?_
  refine qt_icmp_ge 96 dX7_room_23 (by decide) E (fun E => ?_) (fun E => ?_)
  · obtain ⟨z0_, E, G⟩ := qup_g E G
    exact qt_sub _ [0, 1, 3, 4] rfl ((s_X7_room_b96 x1 x3 x5 h E G))
  · refine qt_lload_n 3 dX7_room_26 rfl rfl ?_
    refine qt_aload_n 0 dX7_room_27 rfl rfl ?_
    refine qt_getS 23 (wl_22 h) fe_RX7_9 rfl dX7_room_28 ?_
    refine qt_aload_n 0 dX7_room_31 rfl rfl ?_
    refine qt_getS 25 (wl_22 h) fe_RX7_18 rfl dX7_room_32 ?_
    refine qt_aload_n 0 dX7_room_35 rfl rfl ?_
    refine qt_getS 26 (wl_22 h) fe_RX7_22 rfl dX7_room_36 ?_
    refine qt_iload 5 dX7_room_39 rfl ?_
    refine qt_iald (wl_26 h) dX7_room_41 E (fun E => ?_)
    refine qt_iconst dX7_room_42 ci_4 ?_
    refine qt_imul dX7_room_43 ?_
    refine qt_iload_n 2 dX7_room_44 rfl rfl ?_
    refine qt_iadd dX7_room_45 ?_
    refine qt_iald (wl_25 h) dX7_room_46 E (fun E => ?_)
    refine qt_bipush dX7_room_47 cb_36 ?_
    refine qt_imul dX7_room_49 ?_
    refine qt_aload_n 0 dX7_room_50 rfl rfl ?_
    refine qt_getS 31 (wl_22 h) fe_RX7_37 rfl dX7_room_51 ?_
    refine qt_iload 5 dX7_room_54 rfl ?_
    refine qt_iald (wl_31 h) dX7_room_56 E (fun E => ?_)
    refine qt_iadd dX7_room_57 ?_
    refine qt_lald (wl_23 h) dX7_room_58 E (fun E => ?_)
    refine qt_ldc2 tb_996 dX7_room_59 ?_
    refine qt_lxor dX7_room_62 ?_
    refine qt_land dX7_room_63 ?_
    refine qt_lstore_n (fun v64 => [(3, .long v64), (0, .ref (g.1 + 22)), (1, .int x1), (2, .int x2), (5, .long x5), (7, .int x7)]) dX7_room_64 rfl (Nat.le_of_ble_eq_true rfl) (fun _ => rfl) E (fun v64 E => ?_)
    refine qt_aload_n 1 dX7_room_65 rfl rfl ?_
    refine qt_getS 26 (wl_22 h) fe_RX7_22 rfl dX7_room_66 ?_
    refine qt_iload 5 dX7_room_69 rfl ?_
    refine qt_iald (wl_26 h) dX7_room_71 E (fun E => ?_)
    refine qt_iload_n 3 dX7_room_72 rfl rfl ?_
    refine qt_icmp_ne 90 dX7_room_73 (by decide) E (fun E => ?_) (fun E => ?_)
    · exact qt_sub _ [1, 2, 3, 0, 4, 5] rfl ((s_X7_room_b90 x1 x2 v64 x5 x7 h E G))
    · refine qt_lload 4 dX7_room_76 rfl ?_
      refine qt_lconst dX7_room_78 cl_1 ?_
      refine qt_aload_n 1 dX7_room_79 rfl rfl ?_
      refine qt_getS 31 (wl_22 h) fe_RX7_37 rfl dX7_room_80 ?_
      refine qt_iload 5 dX7_room_83 rfl ?_
      refine qt_iald (wl_31 h) dX7_room_85 E (fun E => ?_)
      refine qt_lshl dX7_room_86 ?_
      refine qt_lor dX7_room_87 ?_
      refine qt_lstore (fun v88 => [(5, .long v88), (3, .long v64), (0, .ref (g.1 + 22)), (1, .int x1), (2, .int x2), (7, .int x7)]) dX7_room_88 (Nat.le_of_ble_eq_true rfl) (fun _ => rfl) E (fun v88 E => ?_)
      exact qt_sub _ [2, 3, 4, 1, 0, 5] rfl ((s_X7_room_b90 x1 x2 v64 v88 x7 h E G))
noncomputable def f_X7_room_b20_loop (x1 : Int32) (x2 : Int32) (x3 : Int64) (x5 : Int64) (x7 : Int32) (h : qa_M) : Option (Int64 × qa_M) := qlp (fun sz : Int32 × Int32 × Int64 × Int64 × Int32 × qa_M => f_X7_room_b20 sz.1 sz.2.1 sz.2.2.1 sz.2.2.2.1 sz.2.2.2.2.1 sz.2.2.2.2.2) (x1, x2, x3, x5, x7, h)
theorem s_X7_room_b20_loop {l : Launch} {g : qa_G} {d : Nat} {rz : Option Value} {hz : qa_M} (x1 : Int32) (x2 : Int32) (x3 : Int64) (x5 : Int64) (x7 : Int32) (h : qa_M) {z : (Int64 × qa_M)} (E : f_X7_room_b20_loop x1 x2 x3 x5 x7 h = some z) (G : (qg_l rz hz) z) : qt_At l g (yX7_room, cX7_room, 8, (some .long)) (d + 2) 0 0 20 [(0, .ref (g.1 + 22)), (1, .int x1), (2, .int x2), (3, .long x3), (5, .long x5), (7, .int x7)] [] h rz hz :=
  qlp_ind (fun sz : Int32 × Int32 × Int64 × Int64 × Int32 × qa_M => qt_At l g (yX7_room, cX7_room, 8, (some .long)) (d + 2) 0 0 20 [(0, .ref (g.1 + 22)), (1, .int sz.1), (2, .int sz.2.1), (3, .long sz.2.2.1), (5, .long sz.2.2.2.1), (7, .int sz.2.2.2.2.1)] [] sz.2.2.2.2.2 rz hz) (fun sz E => s_X7_room_b20 sz.1 sz.2.1 sz.2.2.1 sz.2.2.2.1 sz.2.2.2.2.1 sz.2.2.2.2.2 E G) (fun sz sz2 E ih => s_X7_room_b20 sz.1 sz.2.1 sz.2.2.1 sz.2.2.2.1 sz.2.2.2.2.1 sz.2.2.2.2.2 E ih) (x1, x2, x3, x5, x7, h) E
noncomputable def m_X7_room (x1 : Int32) (h : qa_M) : Option (Int64 × qa_M) :=
  qck x1 4 (
  qbd (h.1 26 x1.toNatClampNeg) (fun v6 : Int32 =>
  qck v6 4 (
  qbd (h.2.1 27 v6.toNatClampNeg) (fun v13 : Int64 =>
  qbd (0 : Int64) (fun v15 : Int64 =>
  qbd (0 : Int32) (fun v18 : Int32 =>
  f_X7_room_b20_loop x1 v6 v13 v15 v18 h))))))
set_option maxRecDepth 20000 in
theorem c_X7_room {l : Launch} {g : qa_G} {d : Nat} (x1 : Int32) (h : qa_M) {c : Int64} {h1 : qa_M} (E : m_X7_room x1 h = some (c, h1)) : qt_Met l g (yX7_room, cX7_room, 8, (some .long)) (d + 2) 0 [.ref (g.1 + 22), .int x1] h (some (.long c)) h1 := by
  refine qt_Met.of (plainFor_of_name (by decide)) (Nat.le_of_ble_eq_true rfl) ?_
  have G : qg_l (some (.long c)) h1 ((c, h1)) := ⟨rfl, rfl⟩
  unfold m_X7_room at E
  refine qt_aload_n 0 dX7_room_0 rfl rfl ?_
  refine qt_getS 26 (wl_22 h) fe_RX7_22 rfl dX7_room_1 ?_
  refine qt_iload_n 1 dX7_room_4 rfl rfl ?_
  refine qt_iald (wl_26 h) dX7_room_5 E (fun E => ?_)
  refine qt_istore_n (fun v6 => [(2, .int v6), (0, .ref (g.1 + 22)), (1, .int x1)]) dX7_room_6 rfl (Nat.le_of_ble_eq_true rfl) (fun _ => rfl) E (fun v6 E => ?_)
  refine qt_aload_n 1 dX7_room_7 rfl rfl ?_
  refine qt_getS 27 (wl_22 h) fe_RX7_25 rfl dX7_room_8 ?_
  refine qt_iload_n 0 dX7_room_11 rfl rfl ?_
  refine qt_lald (wl_27 h) dX7_room_12 E (fun E => ?_)
  refine qt_lstore_n (fun v13 => [(3, .long v13), (2, .int v6), (0, .ref (g.1 + 22)), (1, .int x1)]) dX7_room_13 rfl (Nat.le_of_ble_eq_true rfl) (fun _ => rfl) E (fun v13 E => ?_)
  refine qt_lconst dX7_room_14 cl_0 ?_
  refine qt_lstore (fun v15 => [(5, .long v15), (3, .long v13), (2, .int v6), (0, .ref (g.1 + 22)), (1, .int x1)]) dX7_room_15 (Nat.le_of_ble_eq_true rfl) (fun _ => rfl) E (fun v15 E => ?_)
  refine qt_iconst dX7_room_17 ci_0 ?_
  refine qt_istore (fun v18 => [(7, .int v18), (5, .long v15), (3, .long v13), (2, .int v6), (0, .ref (g.1 + 22)), (1, .int x1)]) dX7_room_18 (Nat.le_of_ble_eq_true rfl) (fun _ => rfl) E (fun v18 E => ?_)
  exact qt_sub _ [4, 5, 3, 2, 1, 0] rfl ((s_X7_room_b20_loop x1 v6 v13 v15 v18 h E G))
noncomputable def f_X7_start_b152 (s1 : Int32) (s2 : Int64) (h : qa_M) : Option qa_M :=
  qck s1 4 (
  qbd (qw_J h 32 s1.toNatClampNeg s2) (fun h152 : qa_M =>
  some h152))
set_option maxRecDepth 20000 in
theorem s_X7_start_b152 {l : Launch} {g : qa_G} {d : Nat} {rz : Option Value} {hz : qa_M} (s1 : Int32) (s2 : Int64) (h : qa_M) {z : qa_M} (E : f_X7_start_b152 s1 s2 h = some z) (G : (qg_v rz hz) z) : qt_At l g (yX7_start, cX7_start, 4, none) (d + 3) 0 0 152 [] [.long s2, .int s1, .ref (g.1 + 32)] h rz hz := by
  unfold f_X7_start_b152 at E
  refine qt_last (wl_32 h) dX7_start_152 E (fun h152 E => ?_)
  exact qt_vreturn rfl (Nat.le_of_ble_eq_true rfl) dX7_start_153 E G
noncomputable def f_X7_start_b112 (h : qa_M) : Option qa_M :=
  if (h.1 22 7) = 0 then (
   if (h.1 22 4) = 0 then (
    f_X7_start_b152 (0 : Int32) (4611686018427387904 : Int64) h)
   else (
    qbn (m_X7_room (0 : Int32) h) (fun (c149 : Int64) (h149 : qa_M) =>
    f_X7_start_b152 (0 : Int32) c149 h149)))
  else (
   qck (0 : Int32) 4 (
   qbd (qw_J h 32 (0 : Int32).toNatClampNeg (0 : Int64)) (fun h125 : qa_M =>
   some h125)))
set_option maxRecDepth 20000 in
theorem s_X7_start_b112 {l : Launch} {g : qa_G} {d : Nat} {rz : Option Value} {hz : qa_M} (h : qa_M) {z : qa_M} (E : f_X7_start_b112 h = some z) (G : (qg_v rz hz) z) : qt_At l g (yX7_start, cX7_start, 4, none) (d + 3) 0 0 112 [(0, .ref (g.1 + 22))] [] h rz hz := by
  unfold f_X7_start_b112 at E
  refine qt_aload_n 0 dX7_start_112 rfl rfl ?_
  refine qt_getI (wl_22 h) fe_RX7_111 rfl dX7_start_113 ?_
  refine qt_if_eq 129 dX7_start_116 (by decide) E (fun E => ?_) (fun E => ?_)
  · refine qt_aload_n 0 dX7_start_129 rfl rfl ?_
    refine qt_getS 32 (wl_22 h) fe_RX7_40 rfl dX7_start_130 ?_
    refine qt_iconst dX7_start_133 ci_0 ?_
    refine qt_aload_n 0 dX7_start_134 rfl rfl ?_
    refine qt_getI (wl_22 h) fe_RX7_62 rfl dX7_start_135 ?_
    refine qt_if_ne 147 dX7_start_138 (by decide) E (fun E => ?_) (fun E => ?_)
    · refine qt_aload_n 0 dX7_start_147 rfl rfl ?_
      refine qt_iconst dX7_start_148 ci_0 ?_
      obtain ⟨c149, h149, e149, E⟩ := qbn_el E
      refine qt_callVl (b2 := 0) [.int (0 : Int32)] (c_X7_room (0 : Int32) h e149) cv_RX7_144 (wl_22 h) rfl rfl rfl (Nat.le_of_ble_eq_true rfl) (Nat.le_of_ble_eq_true rfl) dX7_start_149 ?_
      exact qt_sub _ [] rfl ((s_X7_start_b152 (0 : Int32) c149 h149 E G))
    · refine qt_ldc2 tb_1014 dX7_start_141 ?_
      refine qt_goto 152 dX7_start_144 (by decide) ?_
      exact qt_sub _ [] rfl ((s_X7_start_b152 (0 : Int32) (4611686018427387904 : Int64) h E G))
  · refine qt_aload_n 0 dX7_start_119 rfl rfl ?_
    refine qt_getS 32 (wl_22 h) fe_RX7_40 rfl dX7_start_120 ?_
    refine qt_iconst dX7_start_123 ci_0 ?_
    refine qt_lconst dX7_start_124 cl_0 ?_
    refine qt_last (wl_32 h) dX7_start_125 E (fun h125 E => ?_)
    refine qt_goto 153 dX7_start_126 (by decide) ?_
    exact qt_vreturn rfl (Nat.le_of_ble_eq_true rfl) dX7_start_153 E G
noncomputable def f_X7_start_b106 (x1 : Int32) (x3 : Int32) (h : qa_M) : Option ((Int32 × Int32 × qa_M) ⊕ qa_M) :=
  qbd (x3 + (1 : Int32)) (fun v106 : Int32 =>
  some (.inl (x1, v106, h)))
set_option maxRecDepth 20000 in
theorem s_X7_start_b106 {l : Launch} {g : qa_G} {d : Nat} {rz : Option Value} {hz : qa_M} (x1 : Int32) (x3 : Int32) (h : qa_M) {z : ((Int32 × Int32 × qa_M) ⊕ qa_M)} (E : f_X7_start_b106 x1 x3 h = some z) (G : (Sum.elim (fun (sz : Int32 × Int32 × qa_M) => qt_At l g (yX7_start, cX7_start, 4, none) (d + 3) 0 0 59 [(0, .ref (g.1 + 22)), (1, .int sz.1), (3, .int sz.2.1)] [] sz.2.2 rz hz) (qg_v rz hz)) z) : qt_At l g (yX7_start, cX7_start, 4, none) (d + 3) 0 0 106 [(0, .ref (g.1 + 22)), (1, .int x1), (3, .int x3)] [] h rz hz := by
  unfold f_X7_start_b106 at E
  refine qt_iinc 2 (fun v106 => [(3, .int v106), (0, .ref (g.1 + 22)), (1, .int x1)]) dX7_start_106 rfl ci_1 (Nat.le_of_ble_eq_true rfl) (fun _ => rfl) E (fun v106 E => ?_)
  refine qt_goto 59 dX7_start_109 (by decide) ?_
  cases E
  exact qt_sub _ [1, 2, 0] rfl (G)
noncomputable def f_X7_start_b59 (x1 : Int32) (x3 : Int32) (h : qa_M) : Option ((Int32 × Int32 × qa_M) ⊕ qa_M) :=
  if (h.1 3 1) ≤ x3 then (
   qup (f_X7_start_b112 h))
  else (
   if ((x1 >>> (x3 &&& 31)) &&& (1 : Int32)) = 0 then (
    f_X7_start_b106 x1 x3 h)
   else (
    qbn (m_X8_sort x3 h) (fun (c84 : Int32) (h84 : qa_M) =>
    qbn (m_X8_sure x3 h84) (fun (c92 : Int32) (h92 : qa_M) =>
    qbn (m_X8_region x3 h92) (fun (c100 : Int64) (h100 : qa_M) =>
    qbv (m_X7_heed c84 c92 c100 h100) (fun h103 : qa_M =>
    f_X7_start_b106 x1 x3 h103))))))
set_option maxRecDepth 20000 in
theorem s_X7_start_b59 {l : Launch} {g : qa_G} {d : Nat} {rz : Option Value} {hz : qa_M} (x1 : Int32) (x3 : Int32) (h : qa_M) {z : ((Int32 × Int32 × qa_M) ⊕ qa_M)} (E : f_X7_start_b59 x1 x3 h = some z) (G : (Sum.elim (fun (sz : Int32 × Int32 × qa_M) => qt_At l g (yX7_start, cX7_start, 4, none) (d + 3) 0 0 59 [(0, .ref (g.1 + 22)), (1, .int sz.1), (3, .int sz.2.1)] [] sz.2.2 rz hz) (qg_v rz hz)) z) : qt_At l g (yX7_start, cX7_start, 4, none) (d + 3) 0 0 59 [(0, .ref (g.1 + 22)), (1, .int x1), (3, .int x3)] [] h rz hz := by
  unfold f_X7_start_b59 at E
  refine qt_iload_n 2 dX7_start_59 rfl rfl ?_
  refine qt_aload_n 0 dX7_start_60 rfl rfl ?_
  refine qt_getS 3 (wl_22 h) fe_RX7_46 rfl dX7_start_61 ?_
  refine qt_getI (wl_3 h) fe_RX7_127 rfl dX7_start_64 ?_
  refine qt_icmp_ge 112 dX7_start_67 (by decide) E (fun E => ?_) (fun E => ?_)
  · obtain ⟨z0_, E, G⟩ := qup_g E G
    exact qt_sub _ [0] rfl ((s_X7_start_b112 h E G))
  · refine qt_iload_n 1 dX7_start_70 rfl rfl ?_
    refine qt_iload_n 2 dX7_start_71 rfl rfl ?_
    refine qt_ishr dX7_start_72 ?_
    refine qt_iconst dX7_start_73 ci_1 ?_
    refine qt_iand dX7_start_74 ?_
    refine qt_if_eq 106 dX7_start_75 (by decide) E (fun E => ?_) (fun E => ?_)
    · exact qt_sub _ [0, 1, 2] rfl ((s_X7_start_b106 x1 x3 h E G))
    · refine qt_aload_n 0 dX7_start_78 rfl rfl ?_
      refine qt_aload_n 0 dX7_start_79 rfl rfl ?_
      refine qt_getS 3 (wl_22 h) fe_RX7_46 rfl dX7_start_80 ?_
      refine qt_iload_n 2 dX7_start_83 rfl rfl ?_
      obtain ⟨c84, h84, e84, E⟩ := qbn_el E
      refine qt_callVi (b2 := 0) [.int x3] (c_X8_sort x3 h e84) cv_RX7_130 (wl_3 h) rfl rfl rfl (Nat.le_of_ble_eq_true rfl) (Nat.le_of_ble_eq_true rfl) dX7_start_84 ?_
      refine qt_aload_n 0 dX7_start_87 rfl rfl ?_
      refine qt_getS 3 (wl_22 h84) fe_RX7_46 rfl dX7_start_88 ?_
      refine qt_iload_n 2 dX7_start_91 rfl rfl ?_
      obtain ⟨c92, h92, e92, E⟩ := qbn_el E
      refine qt_callVi (b2 := 0) [.int x3] (c_X8_sure x3 h84 e92) cv_RX7_133 (wl_3 h84) rfl rfl rfl (Nat.le_of_ble_eq_true rfl) (Nat.le_of_ble_eq_true rfl) dX7_start_92 ?_
      refine qt_aload_n 0 dX7_start_95 rfl rfl ?_
      refine qt_getS 3 (wl_22 h92) fe_RX7_46 rfl dX7_start_96 ?_
      refine qt_iload_n 2 dX7_start_99 rfl rfl ?_
      obtain ⟨c100, h100, e100, E⟩ := qbn_el E
      refine qt_callVl (b2 := 0) [.int x3] (c_X8_region x3 h92 e100) cv_RX7_135 (wl_3 h92) rfl rfl rfl (Nat.le_of_ble_eq_true rfl) (Nat.le_of_ble_eq_true rfl) dX7_start_100 ?_
      obtain ⟨h103, e103, E⟩ := qbv_el E
      refine qt_callVv (b2 := 0) [.int c84, .int c92, .long c100] (c_X7_heed c84 c92 c100 h100 e103) cv_RX7_138 (wl_22 h100) rfl rfl rfl (Nat.le_of_ble_eq_true rfl) (Nat.le_of_ble_eq_true rfl) dX7_start_103 ?_
      exact qt_sub _ [0, 1, 2] rfl ((s_X7_start_b106 x1 x3 h103 E G))
noncomputable def f_X7_start_b59_loop (x1 : Int32) (x3 : Int32) (h : qa_M) : Option qa_M := qlp (fun sz : Int32 × Int32 × qa_M => f_X7_start_b59 sz.1 sz.2.1 sz.2.2) (x1, x3, h)
theorem s_X7_start_b59_loop {l : Launch} {g : qa_G} {d : Nat} {rz : Option Value} {hz : qa_M} (x1 : Int32) (x3 : Int32) (h : qa_M) {z : qa_M} (E : f_X7_start_b59_loop x1 x3 h = some z) (G : (qg_v rz hz) z) : qt_At l g (yX7_start, cX7_start, 4, none) (d + 3) 0 0 59 [(0, .ref (g.1 + 22)), (1, .int x1), (3, .int x3)] [] h rz hz :=
  qlp_ind (fun sz : Int32 × Int32 × qa_M => qt_At l g (yX7_start, cX7_start, 4, none) (d + 3) 0 0 59 [(0, .ref (g.1 + 22)), (1, .int sz.1), (3, .int sz.2.1)] [] sz.2.2 rz hz) (fun sz E => s_X7_start_b59 sz.1 sz.2.1 sz.2.2 E G) (fun sz sz2 E ih => s_X7_start_b59 sz.1 sz.2.1 sz.2.2 E ih) (x1, x3, h) E
noncomputable def f_X7_start_b57 (x1 : Int32) (h : qa_M) : Option qa_M :=
  qbd (0 : Int32) (fun v58 : Int32 =>
  f_X7_start_b59_loop x1 v58 h)
set_option maxRecDepth 20000 in
theorem s_X7_start_b57 {l : Launch} {g : qa_G} {d : Nat} {rz : Option Value} {hz : qa_M} (x1 : Int32) (h : qa_M) {z : qa_M} (E : f_X7_start_b57 x1 h = some z) (G : (qg_v rz hz) z) : qt_At l g (yX7_start, cX7_start, 4, none) (d + 3) 0 0 57 [(0, .ref (g.1 + 22)), (1, .int x1)] [] h rz hz := by
  unfold f_X7_start_b57 at E
  refine qt_iconst dX7_start_57 ci_0 ?_
  refine qt_istore_n (fun v58 => [(3, .int v58), (0, .ref (g.1 + 22)), (1, .int x1)]) dX7_start_58 rfl (Nat.le_of_ble_eq_true rfl) (fun _ => rfl) E (fun v58 E => ?_)
  exact qt_sub _ [1, 2, 0] rfl ((s_X7_start_b59_loop x1 v58 h E G))
noncomputable def f_X7_start_b25 (x1 : Int32) (x3 : Int32) (h : qa_M) : Option ((Int32 × Int32 × qa_M) ⊕ qa_M) :=
  if (4 : Int32) ≤ x3 then (
   qup (f_X7_start_b57 x1 h))
  else (
   qbn (m_X3_open h) (fun (c36 : Int64) (h36 : qa_M) =>
   qck x3 4 (
   qck x3 4 (
   qbd (qw_J h36 27 x3.toNatClampNeg (c36 &&& ((h36.2.1 24 x3.toNatClampNeg) ^^^ (-1 : Int64)))) (fun h50 : qa_M =>
   qbd (x3 + (1 : Int32)) (fun v51 : Int32 =>
   some (.inl (x1, v51, h50))))))))
set_option maxRecDepth 20000 in
theorem s_X7_start_b25 {l : Launch} {g : qa_G} {d : Nat} {rz : Option Value} {hz : qa_M} (x1 : Int32) (x3 : Int32) (h : qa_M) {z : ((Int32 × Int32 × qa_M) ⊕ qa_M)} (E : f_X7_start_b25 x1 x3 h = some z) (G : (Sum.elim (fun (sz : Int32 × Int32 × qa_M) => qt_At l g (yX7_start, cX7_start, 4, none) (d + 3) 0 0 25 [(0, .ref (g.1 + 22)), (1, .int sz.1), (2, .ref (g.1 + 4)), (3, .int sz.2.1)] [] sz.2.2 rz hz) (qg_v rz hz)) z) : qt_At l g (yX7_start, cX7_start, 4, none) (d + 3) 0 0 25 [(0, .ref (g.1 + 22)), (1, .int x1), (2, .ref (g.1 + 4)), (3, .int x3)] [] h rz hz := by
  unfold f_X7_start_b25 at E
  refine qt_iload_n 3 dX7_start_25 rfl rfl ?_
  refine qt_iconst dX7_start_26 ci_4 ?_
  refine qt_icmp_ge 57 dX7_start_27 (by decide) E (fun E => ?_) (fun E => ?_)
  · obtain ⟨z0_, E, G⟩ := qup_g E G
    exact qt_sub _ [0, 1] rfl ((s_X7_start_b57 x1 h E G))
  · refine qt_aload_n 0 dX7_start_30 rfl rfl ?_
    refine qt_getS 27 (wl_22 h) fe_RX7_25 rfl dX7_start_31 ?_
    refine qt_iload_n 3 dX7_start_34 rfl rfl ?_
    refine qt_aload_n 2 dX7_start_35 rfl rfl ?_
    obtain ⟨c36, h36, e36, E⟩ := qbn_el E
    refine qt_callVl (b2 := 0) [] (c_X3_open h e36) cv_RX7_121 (wl_4 h) rfl rfl rfl (Nat.le_of_ble_eq_true rfl) (Nat.le_of_ble_eq_true rfl) dX7_start_36 ?_
    refine qt_aload_n 0 dX7_start_39 rfl rfl ?_
    refine qt_getS 24 (wl_22 h36) fe_RX7_15 rfl dX7_start_40 ?_
    refine qt_iload_n 3 dX7_start_43 rfl rfl ?_
    refine qt_lald (wl_24 h36) dX7_start_44 E (fun E => ?_)
    refine qt_ldc2 tb_996 dX7_start_45 ?_
    refine qt_lxor dX7_start_48 ?_
    refine qt_land dX7_start_49 ?_
    refine qt_last (wl_27 h36) dX7_start_50 E (fun h50 E => ?_)
    refine qt_iinc 3 (fun v51 => [(3, .int v51), (0, .ref (g.1 + 22)), (1, .int x1), (2, .ref (g.1 + 4))]) dX7_start_51 rfl ci_1 (Nat.le_of_ble_eq_true rfl) (fun _ => rfl) E (fun v51 E => ?_)
    refine qt_goto 25 dX7_start_54 (by decide) ?_
    cases E
    exact qt_sub _ [1, 2, 3, 0] rfl (G)
noncomputable def f_X7_start_b25_loop (x1 : Int32) (x3 : Int32) (h : qa_M) : Option qa_M := qlp (fun sz : Int32 × Int32 × qa_M => f_X7_start_b25 sz.1 sz.2.1 sz.2.2) (x1, x3, h)
theorem s_X7_start_b25_loop {l : Launch} {g : qa_G} {d : Nat} {rz : Option Value} {hz : qa_M} (x1 : Int32) (x3 : Int32) (h : qa_M) {z : qa_M} (E : f_X7_start_b25_loop x1 x3 h = some z) (G : (qg_v rz hz) z) : qt_At l g (yX7_start, cX7_start, 4, none) (d + 3) 0 0 25 [(0, .ref (g.1 + 22)), (1, .int x1), (2, .ref (g.1 + 4)), (3, .int x3)] [] h rz hz :=
  qlp_ind (fun sz : Int32 × Int32 × qa_M => qt_At l g (yX7_start, cX7_start, 4, none) (d + 3) 0 0 25 [(0, .ref (g.1 + 22)), (1, .int sz.1), (2, .ref (g.1 + 4)), (3, .int sz.2.1)] [] sz.2.2 rz hz) (fun sz E => s_X7_start_b25 sz.1 sz.2.1 sz.2.2 E G) (fun sz sz2 E ih => s_X7_start_b25 sz.1 sz.2.1 sz.2.2 E ih) (x1, x3, h) E
noncomputable def m_X7_start (x1 : Int32) (h : qa_M) : Option qa_M :=
  qbd (qw_I h 22 7 (0 : Int32)) (fun h10 : qa_M =>
  qbd (qw_I h10 22 8 (0 : Int32)) (fun h15 : qa_M =>
  qbd (qw_I h15 22 12 (0 : Int32)) (fun h20 : qa_M =>
  qbd (0 : Int32) (fun v24 : Int32 =>
  f_X7_start_b25_loop x1 v24 h20))))
set_option maxRecDepth 20000 in
theorem c_X7_start {l : Launch} {g : qa_G} {d : Nat} (x1 : Int32) (h : qa_M) {h1 : qa_M} (E : m_X7_start x1 h = some h1) : qt_Met l g (yX7_start, cX7_start, 4, none) (d + 3) 0 [.ref (g.1 + 22), .int x1] h none h1 := by
  refine qt_Met.of (plainFor_of_name (by decide)) (Nat.le_of_ble_eq_true rfl) ?_
  have G : qg_v none h1 (h1) := ⟨rfl, rfl⟩
  unfold m_X7_start at E
  refine qt_aload_n 0 dX7_start_0 rfl rfl ?_
  refine qt_getS 3 (wl_22 h) fe_RX7_46 rfl dX7_start_1 ?_
  refine qt_getS 4 (wl_3 h) fe_RX7_56 rfl dX7_start_4 ?_
  refine qt_astore_n [(2, .ref (g.1 + 4)), (0, .ref (g.1 + 22)), (1, .int x1)] dX7_start_7 rfl (Nat.le_of_ble_eq_true rfl) rfl ?_
  refine qt_aload_n 1 dX7_start_8 rfl rfl ?_
  refine qt_iconst dX7_start_9 ci_0 ?_
  refine qt_putI (wl_22 h) fd_RX7_111 rfl (qz_nar (Or.inl rfl)) (qz_fit (Or.inl rfl)) dX7_start_10 E (fun h10 E => ?_)
  refine qt_aload_n 1 dX7_start_13 rfl rfl ?_
  refine qt_iconst dX7_start_14 ci_0 ?_
  refine qt_putI (wl_22 h10) fd_RX7_115 rfl rfl rfl dX7_start_15 E (fun h15 E => ?_)
  refine qt_aload_n 1 dX7_start_18 rfl rfl ?_
  refine qt_iconst dX7_start_19 ci_0 ?_
  refine qt_putI (wl_22 h15) fd_RX7_118 rfl rfl rfl dX7_start_20 E (fun h20 E => ?_)
  refine qt_iconst dX7_start_23 ci_0 ?_
  refine qt_istore_n (fun v24 => [(3, .int v24), (2, .ref (g.1 + 4)), (0, .ref (g.1 + 22)), (1, .int x1)]) dX7_start_24 rfl (Nat.le_of_ble_eq_true rfl) (fun _ => rfl) E (fun v24 E => ?_)
  exact qt_sub _ [2, 3, 1, 0] rfl ((s_X7_start_b25_loop x1 v24 h20 E G))
noncomputable def m_X2_lowest (x0 : Int64) (h : qa_M) : Option (Int32 × qa_M) :=
  qbn (m_J13_bitCount_95d88 ((x0 &&& (-x0)) - (1 : Int64)) h) (fun (c6 : Int32) (h6 : qa_M) =>
  some (c6, h6))
set_option maxRecDepth 20000 in
theorem c_X2_lowest {l : Launch} {g : qa_G} {d : Nat} (x0 : Int64) (h : qa_M) {c : Int32} {h1 : qa_M} (E : m_X2_lowest x0 h = some (c, h1)) : qt_Met l g (yX2_lowest, cX2_lowest, 2, (some .int)) (d + 1) 0 [.long x0] h (some (.int c)) h1 := by
  refine qt_Met.of (plainFor_of_name (by decide)) (Nat.le_of_ble_eq_true rfl) ?_
  have G : qg_i (some (.int c)) h1 ((c, h1)) := ⟨rfl, rfl⟩
  unfold m_X2_lowest at E
  refine qt_lload_n 0 dX2_lowest_0 rfl rfl ?_
  refine qt_lload_n 0 dX2_lowest_1 rfl rfl ?_
  refine qt_lneg dX2_lowest_2 ?_
  refine qt_land dX2_lowest_3 ?_
  refine qt_lconst dX2_lowest_4 cl_1 ?_
  refine qt_lsub dX2_lowest_5 ?_
  obtain ⟨c6, h6, e6, E⟩ := qbn_el E
  refine qt_callSi (b2 := 0) [.long ((x0 &&& (-x0)) - (1 : Int64))] (c_J13_bitCount_95d88 ((x0 &&& (-x0)) - (1 : Int64)) h e6) cv_RX2_21 rfl (Nat.le_of_ble_eq_true rfl) (Nat.le_of_ble_eq_true rfl) dX2_lowest_6 ?_
  exact qt_ireturn rfl (Nat.le_of_ble_eq_true rfl) dX2_lowest_9 E G
noncomputable def f_X7_step_b175 (x1 : Int32) (h : qa_M) : Option ((Int32 × qa_M) ⊕ (Int32 × qa_M)) :=
  qbd (x1 + (1 : Int32)) (fun v175 : Int32 =>
  some (.inl (v175, h)))
set_option maxRecDepth 20000 in
theorem s_X7_step_b175 {l : Launch} {g : qa_G} {d : Nat} {rz : Option Value} {hz : qa_M} (x1 : Int32) (h : qa_M) {z : ((Int32 × qa_M) ⊕ (Int32 × qa_M))} (E : f_X7_step_b175 x1 h = some z) (G : (Sum.elim (fun (sz : Int32 × qa_M) => qt_At l g (yX7_step, cX7_step, 6, (some .boolean)) (d + 3) 0 0 42 [(0, .ref (g.1 + 22)), (1, .int sz.1)] [] sz.2 rz hz) (qg_i rz hz)) z) : qt_At l g (yX7_step, cX7_step, 6, (some .boolean)) (d + 3) 0 0 175 [(0, .ref (g.1 + 22)), (1, .int x1)] [] h rz hz := by
  unfold f_X7_step_b175 at E
  refine qt_iinc 1 (fun v175 => [(1, .int v175), (0, .ref (g.1 + 22))]) dX7_step_175 rfl ci_1 (Nat.le_of_ble_eq_true rfl) (fun _ => rfl) E (fun v175 E => ?_)
  refine qt_goto 42 dX7_step_178 (by decide) ?_
  cases E
  exact qt_sub _ [1, 0] rfl (G)
noncomputable def f_X7_step_b146 (x4 : Int64) (h : qa_M) : Option (Int32 × qa_M) :=
  qbd (qw_J h 22 15 x4) (fun h149 : qa_M =>
  some ((1 : Int32), h149))
set_option maxRecDepth 20000 in
theorem s_X7_step_b146 {l : Launch} {g : qa_G} {d : Nat} {rz : Option Value} {hz : qa_M} (x4 : Int64) (h : qa_M) {z : (Int32 × qa_M)} (E : f_X7_step_b146 x4 h = some z) (G : (qg_i rz hz) z) : qt_At l g (yX7_step, cX7_step, 6, (some .boolean)) (d + 3) 0 0 146 [(0, .ref (g.1 + 22)), (4, .long x4)] [] h rz hz := by
  unfold f_X7_step_b146 at E
  refine qt_aload_n 0 dX7_step_146 rfl rfl ?_
  refine qt_lload 1 dX7_step_147 rfl ?_
  refine qt_putJ (wl_22 h) fd_RX7_147 rfl dX7_step_149 E (fun h149 E => ?_)
  refine qt_iconst dX7_step_152 ci_1 ?_
  exact qt_zreturn rfl (Or.inr rfl) (Nat.le_of_ble_eq_true rfl) dX7_step_153 E G
noncomputable def f_X7_step_b42 (x1 : Int32) (h : qa_M) : Option ((Int32 × qa_M) ⊕ (Int32 × qa_M)) :=
  if (2000000 : Int32) ≤ x1 then (
   qup (some ((0 : Int32), h)))
  else (
   if (h.1 22 12) < 0 then (
    qup (some ((0 : Int32), h)))
   else (
    qck (h.1 22 12) 4 (
    qbd (h.2.1 32 (h.1 22 12).toNatClampNeg) (fun v64 : Int64 =>
    if v64 = (0 : Int64) then (
     qbd (qw_I h 22 12 ((h.1 22 12) - (1 : Int32))) (fun h78 : qa_M =>
     f_X7_step_b175 x1 h78))
    else (
     qbn (m_X2_lowest v64 h) (fun (c93 : Int32) (h93 : qa_M) =>
     qck (h.1 22 12) 4 (
     qbd (qw_I h93 31 (h.1 22 12).toNatClampNeg c93) (fun h96 : qa_M =>
     qck (h96.1 22 12) 4 (
     qbd (qw_J h96 32 (h96.1 22 12).toNatClampNeg (v64 &&& (v64 - (1 : Int64)))) (fun h110 : qa_M =>
     qbn (m_X7_room ((h110.1 22 12) + (1 : Int32)) h110) (fun (c118 : Int64) (h118 : qa_M) =>
     qbd c118 (fun v121 : Int64 =>
     if v121 = (0 : Int64) then (
      f_X7_step_b175 x1 h118)
     else (
      if ((h118.1 22 12) + (2 : Int32)) = (h118.1 22 4) then (
       qup (f_X7_step_b146 v121 h118))
      else (
       qbd (qw_I h118 22 12 ((h118.1 22 12) + (1 : Int32))) (fun h161 : qa_M =>
       qck (h161.1 22 12) 4 (
       qbd (qw_J h161 32 (h161.1 22 12).toNatClampNeg v121) (fun h174 : qa_M =>
       f_X7_step_b175 x1 h174)))))))))))))))))
set_option maxRecDepth 20000 in
theorem s_X7_step_b42 {l : Launch} {g : qa_G} {d : Nat} {rz : Option Value} {hz : qa_M} (x1 : Int32) (h : qa_M) {z : ((Int32 × qa_M) ⊕ (Int32 × qa_M))} (E : f_X7_step_b42 x1 h = some z) (G : (Sum.elim (fun (sz : Int32 × qa_M) => qt_At l g (yX7_step, cX7_step, 6, (some .boolean)) (d + 3) 0 0 42 [(0, .ref (g.1 + 22)), (1, .int sz.1)] [] sz.2 rz hz) (qg_i rz hz)) z) : qt_At l g (yX7_step, cX7_step, 6, (some .boolean)) (d + 3) 0 0 42 [(0, .ref (g.1 + 22)), (1, .int x1)] [] h rz hz := by
  unfold f_X7_step_b42 at E
  refine qt_iload_n 1 dX7_step_42 rfl rfl ?_
  refine qt_ldc tb_1025 dX7_step_43 ?_
  refine qt_icmp_ge 181 dX7_step_45 (by decide) E (fun E => ?_) (fun E => ?_)
  · refine qt_iconst dX7_step_181 ci_0 ?_
    obtain ⟨z0_, E, G⟩ := qup_g E G
    exact qt_zreturn rfl (Or.inl rfl) (Nat.le_of_ble_eq_true rfl) dX7_step_182 E G
  · refine qt_aload_n 0 dX7_step_48 rfl rfl ?_
    refine qt_getI (wl_22 h) fe_RX7_118 rfl dX7_step_49 ?_
    refine qt_if_lt 181 dX7_step_52 (by decide) E (fun E => ?_) (fun E => ?_)
    · refine qt_iconst dX7_step_181 ci_0 ?_
      obtain ⟨z0_, E, G⟩ := qup_g E G
      exact qt_zreturn rfl (Or.inl rfl) (Nat.le_of_ble_eq_true rfl) dX7_step_182 E G
    · refine qt_aload_n 0 dX7_step_55 rfl rfl ?_
      refine qt_getS 32 (wl_22 h) fe_RX7_40 rfl dX7_step_56 ?_
      refine qt_aload_n 0 dX7_step_59 rfl rfl ?_
      refine qt_getI (wl_22 h) fe_RX7_118 rfl dX7_step_60 ?_
      refine qt_lald (wl_32 h) dX7_step_63 E (fun E => ?_)
      refine qt_lstore_n (fun v64 => [(2, .long v64), (0, .ref (g.1 + 22)), (1, .int x1)]) dX7_step_64 rfl (Nat.le_of_ble_eq_true rfl) (fun _ => rfl) E (fun v64 E => ?_)
      refine qt_lload_n 0 dX7_step_65 rfl rfl ?_
      refine qt_lconst dX7_step_66 cl_0 ?_
      refine qt_lc_ne 84 dX7_step_67 dX7_step_68 (by decide) E (fun E => ?_) (fun E => ?_)
      · refine qt_aload_n 1 dX7_step_84 rfl rfl ?_
        refine qt_getS 31 (wl_22 h) fe_RX7_37 rfl dX7_step_85 ?_
        refine qt_aload_n 1 dX7_step_88 rfl rfl ?_
        refine qt_getI (wl_22 h) fe_RX7_118 rfl dX7_step_89 ?_
        refine qt_lload_n 0 dX7_step_92 rfl rfl ?_
        obtain ⟨c93, h93, e93, E⟩ := qbn_el E
        refine qt_callSi (b2 := 0) [.long v64] (c_X2_lowest v64 h e93) cv_RX7_152 rfl (Nat.le_of_ble_eq_true rfl) (Nat.le_of_ble_eq_true rfl) dX7_step_93 ?_
        refine qt_iast (wl_31 h93) dX7_step_96 E (fun h96 E => ?_)
        refine qt_aload_n 1 dX7_step_97 rfl rfl ?_
        refine qt_getS 32 (wl_22 h96) fe_RX7_40 rfl dX7_step_98 ?_
        refine qt_aload_n 1 dX7_step_101 rfl rfl ?_
        refine qt_getI (wl_22 h96) fe_RX7_118 rfl dX7_step_102 ?_
        refine qt_lload_n 0 dX7_step_105 rfl rfl ?_
        refine qt_lload_n 0 dX7_step_106 rfl rfl ?_
        refine qt_lconst dX7_step_107 cl_1 ?_
        refine qt_lsub dX7_step_108 ?_
        refine qt_land dX7_step_109 ?_
        refine qt_last (wl_32 h96) dX7_step_110 E (fun h110 E => ?_)
        refine qt_aload_n 1 dX7_step_111 rfl rfl ?_
        refine qt_aload_n 1 dX7_step_112 rfl rfl ?_
        refine qt_getI (wl_22 h110) fe_RX7_118 rfl dX7_step_113 ?_
        refine qt_iconst dX7_step_116 ci_1 ?_
        refine qt_iadd dX7_step_117 ?_
        obtain ⟨c118, h118, e118, E⟩ := qbn_el E
        refine qt_callVl (b2 := 0) [.int ((h110.1 22 12) + (1 : Int32))] (c_X7_room ((h110.1 22 12) + (1 : Int32)) h110 e118) cv_RX7_144 (wl_22 h110) rfl rfl rfl (Nat.le_of_ble_eq_true rfl) (Nat.le_of_ble_eq_true rfl) dX7_step_118 ?_
        refine qt_lstore (fun v121 => [(4, .long v121), (2, .long v64), (0, .ref (g.1 + 22)), (1, .int x1)]) dX7_step_121 (Nat.le_of_ble_eq_true rfl) (fun _ => rfl) E (fun v121 E => ?_)
        refine qt_lload 0 dX7_step_123 rfl ?_
        refine qt_lconst dX7_step_125 cl_0 ?_
        refine qt_lc_ne 133 dX7_step_126 dX7_step_127 (by decide) E (fun E => ?_) (fun E => ?_)
        · refine qt_aload_n 2 dX7_step_133 rfl rfl ?_
          refine qt_getI (wl_22 h118) fe_RX7_118 rfl dX7_step_134 ?_
          refine qt_iconst dX7_step_137 ci_2 ?_
          refine qt_iadd dX7_step_138 ?_
          refine qt_aload_n 2 dX7_step_139 rfl rfl ?_
          refine qt_getI (wl_22 h118) fe_RX7_62 rfl dX7_step_140 ?_
          refine qt_icmp_ne 154 dX7_step_143 (by decide) E (fun E => ?_) (fun E => ?_)
          · refine qt_aload_n 2 dX7_step_154 rfl rfl ?_
            refine qt_dup dX7_step_155 rfl ?_
            refine qt_getI (wl_22 h118) fe_RX7_118 rfl dX7_step_156 ?_
            refine qt_iconst dX7_step_159 ci_1 ?_
            refine qt_iadd dX7_step_160 ?_
            refine qt_putI (wl_22 h118) fd_RX7_118 rfl rfl rfl dX7_step_161 E (fun h161 E => ?_)
            refine qt_aload_n 2 dX7_step_164 rfl rfl ?_
            refine qt_getS 32 (wl_22 h161) fe_RX7_40 rfl dX7_step_165 ?_
            refine qt_aload_n 2 dX7_step_168 rfl rfl ?_
            refine qt_getI (wl_22 h161) fe_RX7_118 rfl dX7_step_169 ?_
            refine qt_lload 0 dX7_step_172 rfl ?_
            refine qt_last (wl_32 h161) dX7_step_174 E (fun h174 E => ?_)
            exact qt_sub _ [2, 3] rfl ((s_X7_step_b175 x1 h174 E G))
          · obtain ⟨z0_, E, G⟩ := qup_g E G
            exact qt_sub _ [2, 0] rfl ((s_X7_step_b146 v121 h118 E G))
        · refine qt_goto 175 dX7_step_130 (by decide) ?_
          exact qt_sub _ [2, 3] rfl ((s_X7_step_b175 x1 h118 E G))
      · refine qt_aload_n 1 dX7_step_71 rfl rfl ?_
        refine qt_dup dX7_step_72 rfl ?_
        refine qt_getI (wl_22 h) fe_RX7_118 rfl dX7_step_73 ?_
        refine qt_iconst dX7_step_76 ci_1 ?_
        refine qt_isub dX7_step_77 ?_
        refine qt_putI (wl_22 h) fd_RX7_118 rfl rfl rfl dX7_step_78 E (fun h78 E => ?_)
        refine qt_goto 175 dX7_step_81 (by decide) ?_
        exact qt_sub _ [1, 2] rfl ((s_X7_step_b175 x1 h78 E G))
noncomputable def f_X7_step_b42_loop (x1 : Int32) (h : qa_M) : Option (Int32 × qa_M) := qlp (fun sz : Int32 × qa_M => f_X7_step_b42 sz.1 sz.2) (x1, h)
theorem s_X7_step_b42_loop {l : Launch} {g : qa_G} {d : Nat} {rz : Option Value} {hz : qa_M} (x1 : Int32) (h : qa_M) {z : (Int32 × qa_M)} (E : f_X7_step_b42_loop x1 h = some z) (G : (qg_i rz hz) z) : qt_At l g (yX7_step, cX7_step, 6, (some .boolean)) (d + 3) 0 0 42 [(0, .ref (g.1 + 22)), (1, .int x1)] [] h rz hz :=
  qlp_ind (fun sz : Int32 × qa_M => qt_At l g (yX7_step, cX7_step, 6, (some .boolean)) (d + 3) 0 0 42 [(0, .ref (g.1 + 22)), (1, .int sz.1)] [] sz.2 rz hz) (fun sz E => s_X7_step_b42 sz.1 sz.2 E G) (fun sz sz2 E ih => s_X7_step_b42 sz.1 sz.2 E ih) (x1, h) E
noncomputable def m_X7_step (h : qa_M) : Option (Int32 × qa_M) :=
  if (2 : Int32) ≤ (h.1 22 4) then (
   qbd (0 : Int32) (fun v41 : Int32 =>
   f_X7_step_b42_loop v41 h))
  else (
   qck (0 : Int32) 4 (
   qbd (qw_J h 22 15 (h.2.1 32 (0 : Int32).toNatClampNeg)) (fun h15 : qa_M =>
   qck (0 : Int32) 4 (
   qbd (qw_J h15 32 (0 : Int32).toNatClampNeg (0 : Int64)) (fun h24 : qa_M =>
   if (h24.2.1 22 15) = (0 : Int64) then (
    some ((0 : Int32), h24))
   else (
    some ((1 : Int32), h24)))))))
set_option maxRecDepth 20000 in
theorem c_X7_step {l : Launch} {g : qa_G} {d : Nat} (h : qa_M) {c : Int32} {h1 : qa_M} (E : m_X7_step h = some (c, h1)) : qt_Met l g (yX7_step, cX7_step, 6, (some .boolean)) (d + 3) 0 [.ref (g.1 + 22)] h (some (.int c)) h1 := by
  refine qt_Met.of (plainFor_of_name (by decide)) (Nat.le_of_ble_eq_true rfl) ?_
  have G : qg_i (some (.int c)) h1 ((c, h1)) := ⟨rfl, rfl⟩
  unfold m_X7_step at E
  refine qt_aload_n 0 dX7_step_0 rfl rfl ?_
  refine qt_getI (wl_22 h) fe_RX7_62 rfl dX7_step_1 ?_
  refine qt_iconst dX7_step_4 ci_2 ?_
  refine qt_icmp_ge 40 dX7_step_5 (by decide) E (fun E => ?_) (fun E => ?_)
  · refine qt_iconst dX7_step_40 ci_0 ?_
    refine qt_istore_n (fun v41 => [(1, .int v41), (0, .ref (g.1 + 22))]) dX7_step_41 rfl (Nat.le_of_ble_eq_true rfl) (fun _ => rfl) E (fun v41 E => ?_)
    exact qt_sub _ [1, 0] rfl ((s_X7_step_b42_loop v41 h E G))
  · refine qt_aload_n 0 dX7_step_8 rfl rfl ?_
    refine qt_aload_n 0 dX7_step_9 rfl rfl ?_
    refine qt_getS 32 (wl_22 h) fe_RX7_40 rfl dX7_step_10 ?_
    refine qt_iconst dX7_step_13 ci_0 ?_
    refine qt_lald (wl_32 h) dX7_step_14 E (fun E => ?_)
    refine qt_putJ (wl_22 h) fd_RX7_147 rfl dX7_step_15 E (fun h15 E => ?_)
    refine qt_aload_n 0 dX7_step_18 rfl rfl ?_
    refine qt_getS 32 (wl_22 h15) fe_RX7_40 rfl dX7_step_19 ?_
    refine qt_iconst dX7_step_22 ci_0 ?_
    refine qt_lconst dX7_step_23 cl_0 ?_
    refine qt_last (wl_32 h15) dX7_step_24 E (fun h24 E => ?_)
    refine qt_aload_n 0 dX7_step_25 rfl rfl ?_
    refine qt_getJ (wl_22 h24) fe_RX7_147 rfl dX7_step_26 ?_
    refine qt_lconst dX7_step_29 cl_0 ?_
    refine qt_lc_eq 38 dX7_step_30 dX7_step_31 (by decide) E (fun E => ?_) (fun E => ?_)
    · refine qt_iconst dX7_step_38 ci_0 ?_
      exact qt_zreturn rfl (Or.inl rfl) (Nat.le_of_ble_eq_true rfl) dX7_step_39 E G
    · refine qt_iconst dX7_step_34 ci_1 ?_
      refine qt_goto 39 dX7_step_35 (by decide) ?_
      exact qt_zreturn rfl (Or.inr rfl) (Nat.le_of_ble_eq_true rfl) dX7_step_39 E G
noncomputable def f_X7_total_b9 (x2 : Int32) (x3 : Int32) (h : qa_M) : Option ((Int32 × Int32 × qa_M) ⊕ (Int32 × qa_M)) :=
  if (2000000 : Int32) ≤ x3 then (
   qup (some (x2, h)))
  else (
   qbn (m_X7_step h) (fun (c16 : Int32) (h16 : qa_M) =>
   if c16 = 0 then (
    qup (some (x2, h16)))
   else (
    qbn (m_J13_bitCount_95d88 (h16.2.1 22 15) h16) (fun (c27 : Int32) (h27 : qa_M) =>
    qbd (x2 + c27) (fun v31 : Int32 =>
    qbd (x3 + (1 : Int32)) (fun v32 : Int32 =>
    some (.inl (v31, v32, h27))))))))
set_option maxRecDepth 20000 in
theorem s_X7_total_b9 {l : Launch} {g : qa_G} {d : Nat} {rz : Option Value} {hz : qa_M} (x2 : Int32) (x3 : Int32) (h : qa_M) {z : ((Int32 × Int32 × qa_M) ⊕ (Int32 × qa_M))} (E : f_X7_total_b9 x2 x3 h = some z) (G : (Sum.elim (fun (sz : Int32 × Int32 × qa_M) => qt_At l g (yX7_total, cX7_total, 4, (some .int)) (d + 4) 0 0 9 [(0, .ref (g.1 + 22)), (2, .int sz.1), (3, .int sz.2.1)] [] sz.2.2 rz hz) (qg_i rz hz)) z) : qt_At l g (yX7_total, cX7_total, 4, (some .int)) (d + 4) 0 0 9 [(0, .ref (g.1 + 22)), (2, .int x2), (3, .int x3)] [] h rz hz := by
  unfold f_X7_total_b9 at E
  refine qt_iload_n 2 dX7_total_9 rfl rfl ?_
  refine qt_ldc tb_1025 dX7_total_10 ?_
  refine qt_icmp_ge 38 dX7_total_12 (by decide) E (fun E => ?_) (fun E => ?_)
  · refine qt_iload_n 1 dX7_total_38 rfl rfl ?_
    obtain ⟨z0_, E, G⟩ := qup_g E G
    exact qt_ireturn rfl (Nat.le_of_ble_eq_true rfl) dX7_total_39 E G
  · refine qt_aload_n 0 dX7_total_15 rfl rfl ?_
    obtain ⟨c16, h16, e16, E⟩ := qbn_el E
    refine qt_callVi (b2 := 0) [] (c_X7_step h e16) cv_RX7_171 (wl_22 h) rfl rfl rfl (Nat.le_of_ble_eq_true rfl) (Nat.le_of_ble_eq_true rfl) dX7_total_16 ?_
    refine qt_if_eq 38 dX7_total_19 (by decide) E (fun E => ?_) (fun E => ?_)
    · refine qt_iload_n 1 dX7_total_38 rfl rfl ?_
      obtain ⟨z0_, E, G⟩ := qup_g E G
      exact qt_ireturn rfl (Nat.le_of_ble_eq_true rfl) dX7_total_39 E G
    · refine qt_iload_n 1 dX7_total_22 rfl rfl ?_
      refine qt_aload_n 0 dX7_total_23 rfl rfl ?_
      refine qt_getJ (wl_22 h16) fe_RX7_147 rfl dX7_total_24 ?_
      obtain ⟨c27, h27, e27, E⟩ := qbn_el E
      refine qt_callSi (b2 := 0) [.long (h16.2.1 22 15)] (c_J13_bitCount_95d88 (h16.2.1 22 15) h16 e27) cv_RX7_162 rfl (Nat.le_of_ble_eq_true rfl) (Nat.le_of_ble_eq_true rfl) dX7_total_27 ?_
      refine qt_iadd dX7_total_30 ?_
      refine qt_istore_n (fun v31 => [(2, .int v31), (0, .ref (g.1 + 22)), (3, .int x3)]) dX7_total_31 rfl (Nat.le_of_ble_eq_true rfl) (fun _ => rfl) E (fun v31 E => ?_)
      refine qt_iinc 2 (fun v32 => [(3, .int v32), (2, .int v31), (0, .ref (g.1 + 22))]) dX7_total_32 rfl ci_1 (Nat.le_of_ble_eq_true rfl) (fun _ => rfl) E (fun v32 E => ?_)
      refine qt_goto 9 dX7_total_35 (by decide) ?_
      cases E
      exact qt_sub _ [2, 1, 0] rfl (G)
noncomputable def f_X7_total_b9_loop (x2 : Int32) (x3 : Int32) (h : qa_M) : Option (Int32 × qa_M) := qlp (fun sz : Int32 × Int32 × qa_M => f_X7_total_b9 sz.1 sz.2.1 sz.2.2) (x2, x3, h)
theorem s_X7_total_b9_loop {l : Launch} {g : qa_G} {d : Nat} {rz : Option Value} {hz : qa_M} (x2 : Int32) (x3 : Int32) (h : qa_M) {z : (Int32 × qa_M)} (E : f_X7_total_b9_loop x2 x3 h = some z) (G : (qg_i rz hz) z) : qt_At l g (yX7_total, cX7_total, 4, (some .int)) (d + 4) 0 0 9 [(0, .ref (g.1 + 22)), (2, .int x2), (3, .int x3)] [] h rz hz :=
  qlp_ind (fun sz : Int32 × Int32 × qa_M => qt_At l g (yX7_total, cX7_total, 4, (some .int)) (d + 4) 0 0 9 [(0, .ref (g.1 + 22)), (2, .int sz.1), (3, .int sz.2.1)] [] sz.2.2 rz hz) (fun sz E => s_X7_total_b9 sz.1 sz.2.1 sz.2.2 E G) (fun sz sz2 E ih => s_X7_total_b9 sz.1 sz.2.1 sz.2.2 E ih) (x2, x3, h) E
noncomputable def m_X7_total (x1 : Int32) (h : qa_M) : Option (Int32 × qa_M) :=
  qbd (0 : Int32) (fun v1 : Int32 =>
  qbv (m_X7_start x1 h) (fun h4 : qa_M =>
  qbd (0 : Int32) (fun v8 : Int32 =>
  f_X7_total_b9_loop v1 v8 h4)))
set_option maxRecDepth 20000 in
theorem c_X7_total {l : Launch} {g : qa_G} {d : Nat} (x1 : Int32) (h : qa_M) {c : Int32} {h1 : qa_M} (E : m_X7_total x1 h = some (c, h1)) : qt_Met l g (yX7_total, cX7_total, 4, (some .int)) (d + 4) 0 [.ref (g.1 + 22), .int x1] h (some (.int c)) h1 := by
  refine qt_Met.of (plainFor_of_name (by decide)) (Nat.le_of_ble_eq_true rfl) ?_
  have G : qg_i (some (.int c)) h1 ((c, h1)) := ⟨rfl, rfl⟩
  unfold m_X7_total at E
  refine qt_iconst dX7_total_0 ci_0 ?_
  refine qt_istore_n (fun v1 => [(2, .int v1), (0, .ref (g.1 + 22)), (1, .int x1)]) dX7_total_1 rfl (Nat.le_of_ble_eq_true rfl) (fun _ => rfl) E (fun v1 E => ?_)
  refine qt_aload_n 1 dX7_total_2 rfl rfl ?_
  refine qt_iload_n 2 dX7_total_3 rfl rfl ?_
  obtain ⟨h4, e4, E⟩ := qbv_el E
  refine qt_callVv (b2 := 0) [.int x1] (c_X7_start x1 h e4) cv_RX7_167 (wl_22 h) rfl rfl rfl (Nat.le_of_ble_eq_true rfl) (Nat.le_of_ble_eq_true rfl) dX7_total_4 ?_
  refine qt_iconst dX7_total_7 ci_0 ?_
  refine qt_istore_n (fun v8 => [(3, .int v8), (2, .int v1), (0, .ref (g.1 + 22)), (1, .int x1)]) dX7_total_8 rfl (Nat.le_of_ble_eq_true rfl) (fun _ => rfl) E (fun v8 E => ?_)
  exact qt_sub _ [2, 1, 0] rfl ((s_X7_total_b9_loop v1 v8 h4 E G))
noncomputable def m_X11_howMany (x1 : Int32) (h : qa_M) : Option (Int32 × qa_M) :=
  qbv (m_X11_prepare h) (fun h1 : qa_M =>
  qbn (m_X7_total x1 h1) (fun (c9 : Int32) (h9 : qa_M) =>
  some (c9, h9)))
set_option maxRecDepth 20000 in
theorem c_X11_howMany {l : Launch} {g : qa_G} {d : Nat} (x1 : Int32) (h : qa_M) {c : Int32} {h1 : qa_M} (E : m_X11_howMany x1 h = some (c, h1)) : qt_Met l g (yX11_howMany, cX11_howMany, 2, (some .int)) (d + 6) 0 [.ref (g.1 + 0), .int x1] h (some (.int c)) h1 := by
  refine qt_Met.of (plainFor_of_name (by decide)) (Nat.le_of_ble_eq_true rfl) ?_
  have G : qg_i (some (.int c)) h1 ((c, h1)) := ⟨rfl, rfl⟩
  unfold m_X11_howMany at E
  refine qt_aload_n 0 dX11_howMany_0 rfl rfl ?_
  obtain ⟨h1, e1, E⟩ := qbv_el E
  refine qt_callVv (b2 := 0) [] (c_X11_prepare h e1) cv_RX11_164 (wl_0 h) rfl rfl rfl (Nat.le_of_ble_eq_true rfl) (Nat.le_of_ble_eq_true rfl) dX11_howMany_1 ?_
  refine qt_aload_n 0 dX11_howMany_4 rfl rfl ?_
  refine qt_getS 22 (wl_0 h1) fe_RX11_67 rfl dX11_howMany_5 ?_
  refine qt_iload_n 1 dX11_howMany_8 rfl rfl ?_
  obtain ⟨c9, h9, e9, E⟩ := qbn_el E
  refine qt_callVi (b2 := 0) [.int x1] (c_X7_total x1 h1 e9) cv_RX11_288 (wl_22 h1) rfl rfl rfl (Nat.le_of_ble_eq_true rfl) (Nat.le_of_ble_eq_true rfl) dX11_howMany_9 ?_
  exact qt_ireturn rfl (Nat.le_of_ble_eq_true rfl) dX11_howMany_12 E G
noncomputable def m_X11_layings (x1 : Int32) (h : qa_M) : Option (Int32 × qa_M) :=
  qbn (m_X11_known x1 h) (fun (c2 : Int32) (h2 : qa_M) =>
  if c2 = 0 then (
   some ((-1 : Int32), h2))
  else (
   qbn (m_X11_howMany x1 h2) (fun (c10 : Int32) (h10 : qa_M) =>
   some (c10, h10))))
set_option maxRecDepth 20000 in
theorem c_X11_layings {l : Launch} {g : qa_G} {d : Nat} (x1 : Int32) (h : qa_M) {c : Int32} {h1 : qa_M} (E : m_X11_layings x1 h = some (c, h1)) : qt_Met l g (yX11_layings, cX11_layings, 2, (some .int)) (d + 7) 0 [.ref (g.1 + 0), .int x1] h (some (.int c)) h1 := by
  refine qt_Met.of (plainFor_of_name (by decide)) (Nat.le_of_ble_eq_true rfl) ?_
  have G : qg_i (some (.int c)) h1 ((c, h1)) := ⟨rfl, rfl⟩
  unfold m_X11_layings at E
  refine qt_aload_n 0 dX11_layings_0 rfl rfl ?_
  refine qt_iload_n 1 dX11_layings_1 rfl rfl ?_
  obtain ⟨c2, h2, e2, E⟩ := qbn_el E
  refine qt_callVi (b2 := 0) [.int x1] (c_X11_known x1 h e2) cv_RX11_187 (wl_0 h) rfl rfl rfl (Nat.le_of_ble_eq_true rfl) (Nat.le_of_ble_eq_true rfl) dX11_layings_2 ?_
  refine qt_if_eq 16 dX11_layings_5 (by decide) E (fun E => ?_) (fun E => ?_)
  · refine qt_iconst dX11_layings_16 ci_m1 ?_
    exact qt_ireturn rfl (Nat.le_of_ble_eq_true rfl) dX11_layings_17 E G
  · refine qt_aload_n 0 dX11_layings_8 rfl rfl ?_
    refine qt_iload_n 1 dX11_layings_9 rfl rfl ?_
    obtain ⟨c10, h10, e10, E⟩ := qbn_el E
    refine qt_callVi (b2 := 0) [.int x1] (c_X11_howMany x1 h2 e10) cv_RX11_191 (wl_0 h2) rfl rfl rfl (Nat.le_of_ble_eq_true rfl) (Nat.le_of_ble_eq_true rfl) dX11_layings_10 ?_
    refine qt_goto 17 dX11_layings_13 (by decide) ?_
    exact qt_ireturn rfl (Nat.le_of_ble_eq_true rfl) dX11_layings_17 E G
noncomputable def m_X7_lastSort (h : qa_M) : Option (Int32 × qa_M) :=
  if (h.1 22 4) = 0 then (
   some ((0 : Int32), h))
  else (
   qck ((h.1 22 4) - (1 : Int32)) 4 (
   some (h.1 26 ((h.1 22 4) - (1 : Int32)).toNatClampNeg, h)))
set_option maxRecDepth 20000 in
theorem c_X7_lastSort {l : Launch} {g : qa_G} {d : Nat} (h : qa_M) {c : Int32} {h1 : qa_M} (E : m_X7_lastSort h = some (c, h1)) : qt_Met l g (yX7_lastSort, cX7_lastSort, 1, (some .int)) d 0 [.ref (g.1 + 22)] h (some (.int c)) h1 := by
  refine qt_Met.of (plainFor_of_name (by decide)) (Nat.le_of_ble_eq_true rfl) ?_
  have G : qg_i (some (.int c)) h1 ((c, h1)) := ⟨rfl, rfl⟩
  unfold m_X7_lastSort at E
  refine qt_aload_n 0 dX7_lastSort_0 rfl rfl ?_
  refine qt_getI (wl_22 h) fe_RX7_62 rfl dX7_lastSort_1 ?_
  refine qt_if_ne 11 dX7_lastSort_4 (by decide) E (fun E => ?_) (fun E => ?_)
  · refine qt_aload_n 0 dX7_lastSort_11 rfl rfl ?_
    refine qt_getS 26 (wl_22 h) fe_RX7_22 rfl dX7_lastSort_12 ?_
    refine qt_aload_n 0 dX7_lastSort_15 rfl rfl ?_
    refine qt_getI (wl_22 h) fe_RX7_62 rfl dX7_lastSort_16 ?_
    refine qt_iconst dX7_lastSort_19 ci_1 ?_
    refine qt_isub dX7_lastSort_20 ?_
    refine qt_iald (wl_26 h) dX7_lastSort_21 E (fun E => ?_)
    exact qt_ireturn rfl (Nat.le_of_ble_eq_true rfl) dX7_lastSort_22 E G
  · refine qt_iconst dX7_lastSort_7 ci_0 ?_
    refine qt_goto 22 dX7_lastSort_8 (by decide) ?_
    exact qt_ireturn rfl (Nat.le_of_ble_eq_true rfl) dX7_lastSort_22 E G
noncomputable def f_X7_tally_b104 (x2 : Int32) (x3 : Int64) (x5 : Int32) (x6 : Int32) (s0 : Int32) (h : qa_M) : Option ((Int32 × Int64 × Int32 × qa_M) ⊕ qa_M) :=
  qbd s0 (fun v104 : Int32 =>
  qck x6 5 (
  qbn (m_J13_bitCount_95d88 (h.2.1 22 15) h) (fun (c118 : Int32) (h118 : qa_M) =>
  qck x6 5 (
  qbd (qw_I h118 33 x6.toNatClampNeg ((h.1 33 x6.toNatClampNeg) + (c118 - v104))) (fun h125 : qa_M =>
  qck (x6 + (1 : Int32)) 5 (
  qck (x6 + (1 : Int32)) 5 (
  qbd (qw_I h125 33 (x6 + (1 : Int32)).toNatClampNeg ((h125.1 33 (x6 + (1 : Int32)).toNatClampNeg) + v104)) (fun h139 : qa_M =>
  qbd (x5 + (1 : Int32)) (fun v140 : Int32 =>
  some (.inl (x2, x3, v140, h139)))))))))))
set_option maxRecDepth 20000 in
theorem s_X7_tally_b104 {l : Launch} {g : qa_G} {d : Nat} {rz : Option Value} {hz : qa_M} (x2 : Int32) (x3 : Int64) (x5 : Int32) (x6 : Int32) (s0 : Int32) (h : qa_M) {z : ((Int32 × Int64 × Int32 × qa_M) ⊕ qa_M)} (E : f_X7_tally_b104 x2 x3 x5 x6 s0 h = some z) (G : (Sum.elim (fun (sz : Int32 × Int64 × Int32 × qa_M) => qt_At l g (yX7_tally, cX7_tally, 8, none) (d + 4) 0 0 16 [(0, .ref (g.1 + 22)), (2, .int sz.1), (3, .long sz.2.1), (5, .int sz.2.2.1)] [] sz.2.2.2 rz hz) (qg_v rz hz)) z) : qt_At l g (yX7_tally, cX7_tally, 8, none) (d + 4) 0 0 104 [(0, .ref (g.1 + 22)), (2, .int x2), (3, .long x3), (5, .int x5), (6, .int x6)] [.int s0] h rz hz := by
  unfold f_X7_tally_b104 at E
  refine qt_istore (fun v104 => [(7, .int v104), (0, .ref (g.1 + 22)), (2, .int x2), (3, .long x3), (5, .int x5), (6, .int x6)]) dX7_tally_104 (Nat.le_of_ble_eq_true rfl) (fun _ => rfl) E (fun v104 E => ?_)
  refine qt_aload_n 1 dX7_tally_106 rfl rfl ?_
  refine qt_getS 33 (wl_22 h) fe_RX7_43 rfl dX7_tally_107 ?_
  refine qt_iload 5 dX7_tally_110 rfl ?_
  refine qt_dup2_11 dX7_tally_112 rfl rfl ?_
  refine qt_iald (wl_33 h) dX7_tally_113 E (fun E => ?_)
  refine qt_aload_n 1 dX7_tally_114 rfl rfl ?_
  refine qt_getJ (wl_22 h) fe_RX7_147 rfl dX7_tally_115 ?_
  obtain ⟨c118, h118, e118, E⟩ := qbn_el E
  refine qt_callSi (b2 := 0) [.long (h.2.1 22 15)] (c_J13_bitCount_95d88 (h.2.1 22 15) h e118) cv_RX7_162 rfl (Nat.le_of_ble_eq_true rfl) (Nat.le_of_ble_eq_true rfl) dX7_tally_118 ?_
  refine qt_iload 0 dX7_tally_121 rfl ?_
  refine qt_isub dX7_tally_123 ?_
  refine qt_iadd dX7_tally_124 ?_
  refine qt_iast (wl_33 h118) dX7_tally_125 E (fun h125 E => ?_)
  refine qt_aload_n 1 dX7_tally_126 rfl rfl ?_
  refine qt_getS 33 (wl_22 h125) fe_RX7_43 rfl dX7_tally_127 ?_
  refine qt_iload 5 dX7_tally_130 rfl ?_
  refine qt_iconst dX7_tally_132 ci_1 ?_
  refine qt_iadd dX7_tally_133 ?_
  refine qt_dup2_11 dX7_tally_134 rfl rfl ?_
  refine qt_iald (wl_33 h125) dX7_tally_135 E (fun E => ?_)
  refine qt_iload 0 dX7_tally_136 rfl ?_
  refine qt_iadd dX7_tally_138 ?_
  refine qt_iast (wl_33 h125) dX7_tally_139 E (fun h139 E => ?_)
  refine qt_iinc 4 (fun v140 => [(5, .int v140), (7, .int v104), (0, .ref (g.1 + 22)), (2, .int x2), (3, .long x3), (6, .int x6)]) dX7_tally_140 rfl ci_1 (Nat.le_of_ble_eq_true rfl) (fun _ => rfl) E (fun v140 E => ?_)
  refine qt_goto 16 dX7_tally_143 (by decide) ?_
  cases E
  exact qt_sub _ [2, 3, 4, 0] rfl (G)
noncomputable def f_X7_tally_b83 (x2 : Int32) (x3 : Int64) (x5 : Int32) (x6 : Int32) (h : qa_M) : Option ((Int32 × Int64 × Int32 × qa_M) ⊕ qa_M) :=
  qbn (m_X7_lastSort h) (fun (c84 : Int32) (h84 : qa_M) =>
  if c84 = x2 then (
   qbn (m_J13_bitCount_95d88 ((h84.2.1 22 15) &&& x3) h84) (fun (c97 : Int32) (h97 : qa_M) =>
   f_X7_tally_b104 x2 x3 x5 x6 c97 h97))
  else (
   f_X7_tally_b104 x2 x3 x5 x6 (0 : Int32) h84))
set_option maxRecDepth 20000 in
theorem s_X7_tally_b83 {l : Launch} {g : qa_G} {d : Nat} {rz : Option Value} {hz : qa_M} (x2 : Int32) (x3 : Int64) (x5 : Int32) (x6 : Int32) (h : qa_M) {z : ((Int32 × Int64 × Int32 × qa_M) ⊕ qa_M)} (E : f_X7_tally_b83 x2 x3 x5 x6 h = some z) (G : (Sum.elim (fun (sz : Int32 × Int64 × Int32 × qa_M) => qt_At l g (yX7_tally, cX7_tally, 8, none) (d + 4) 0 0 16 [(0, .ref (g.1 + 22)), (2, .int sz.1), (3, .long sz.2.1), (5, .int sz.2.2.1)] [] sz.2.2.2 rz hz) (qg_v rz hz)) z) : qt_At l g (yX7_tally, cX7_tally, 8, none) (d + 4) 0 0 83 [(0, .ref (g.1 + 22)), (2, .int x2), (3, .long x3), (5, .int x5), (6, .int x6)] [] h rz hz := by
  unfold f_X7_tally_b83 at E
  refine qt_aload_n 0 dX7_tally_83 rfl rfl ?_
  obtain ⟨c84, h84, e84, E⟩ := qbn_el E
  refine qt_callVi (b2 := 0) [] (c_X7_lastSort h e84) cv_RX7_175 (wl_22 h) rfl rfl rfl (Nat.le_of_ble_eq_true rfl) (Nat.le_of_ble_eq_true rfl) dX7_tally_84 ?_
  refine qt_iload_n 1 dX7_tally_87 rfl rfl ?_
  refine qt_icmp_ne 103 dX7_tally_88 (by decide) E (fun E => ?_) (fun E => ?_)
  · refine qt_iconst dX7_tally_103 ci_0 ?_
    exact qt_sub _ [0, 1, 2, 3, 4] rfl ((s_X7_tally_b104 x2 x3 x5 x6 (0 : Int32) h84 E G))
  · refine qt_aload_n 0 dX7_tally_91 rfl rfl ?_
    refine qt_getJ (wl_22 h84) fe_RX7_147 rfl dX7_tally_92 ?_
    refine qt_lload_n 2 dX7_tally_95 rfl rfl ?_
    refine qt_land dX7_tally_96 ?_
    obtain ⟨c97, h97, e97, E⟩ := qbn_el E
    refine qt_callSi (b2 := 0) [.long ((h84.2.1 22 15) &&& x3)] (c_J13_bitCount_95d88 ((h84.2.1 22 15) &&& x3) h84 e97) cv_RX7_162 rfl (Nat.le_of_ble_eq_true rfl) (Nat.le_of_ble_eq_true rfl) dX7_tally_97 ?_
    refine qt_goto 104 dX7_tally_100 (by decide) ?_
    exact qt_sub _ [0, 1, 2, 3, 4] rfl ((s_X7_tally_b104 x2 x3 x5 x6 c97 h97 E G))
noncomputable def f_X7_tally_b77 (x2 : Int32) (x3 : Int64) (x5 : Int32) (x6 : Int32) (x7 : Int32) (h : qa_M) : Option ((Int32 × Int64 × Int32 × Int32 × Int32 × qa_M) ⊕ ((Int32 × Int64 × Int32 × qa_M) ⊕ qa_M)) :=
  qbd (x7 + (1 : Int32)) (fun v77 : Int32 =>
  some (.inl (x2, x3, x5, x6, v77, h)))
set_option maxRecDepth 20000 in
theorem s_X7_tally_b77 {l : Launch} {g : qa_G} {d : Nat} {rz : Option Value} {hz : qa_M} (x2 : Int32) (x3 : Int64) (x5 : Int32) (x6 : Int32) (x7 : Int32) (h : qa_M) {z : ((Int32 × Int64 × Int32 × Int32 × Int32 × qa_M) ⊕ ((Int32 × Int64 × Int32 × qa_M) ⊕ qa_M))} (E : f_X7_tally_b77 x2 x3 x5 x6 x7 h = some z) (G : (Sum.elim (fun (sz : Int32 × Int64 × Int32 × Int32 × Int32 × qa_M) => qt_At l g (yX7_tally, cX7_tally, 8, none) (d + 4) 0 0 36 [(0, .ref (g.1 + 22)), (2, .int sz.1), (3, .long sz.2.1), (5, .int sz.2.2.1), (6, .int sz.2.2.2.1), (7, .int sz.2.2.2.2.1)] [] sz.2.2.2.2.2 rz hz) (Sum.elim (fun (sz : Int32 × Int64 × Int32 × qa_M) => qt_At l g (yX7_tally, cX7_tally, 8, none) (d + 4) 0 0 16 [(0, .ref (g.1 + 22)), (2, .int sz.1), (3, .long sz.2.1), (5, .int sz.2.2.1)] [] sz.2.2.2 rz hz) (qg_v rz hz))) z) : qt_At l g (yX7_tally, cX7_tally, 8, none) (d + 4) 0 0 77 [(0, .ref (g.1 + 22)), (2, .int x2), (3, .long x3), (5, .int x5), (6, .int x6), (7, .int x7)] [] h rz hz := by
  unfold f_X7_tally_b77 at E
  refine qt_iinc 5 (fun v77 => [(7, .int v77), (0, .ref (g.1 + 22)), (2, .int x2), (3, .long x3), (5, .int x5), (6, .int x6)]) dX7_tally_77 rfl ci_1 (Nat.le_of_ble_eq_true rfl) (fun _ => rfl) E (fun v77 E => ?_)
  refine qt_goto 36 dX7_tally_80 (by decide) ?_
  cases E
  exact qt_sub _ [1, 2, 3, 4, 5, 0] rfl (G)
noncomputable def f_X7_tally_b36 (x2 : Int32) (x3 : Int64) (x5 : Int32) (x6 : Int32) (x7 : Int32) (h : qa_M) : Option ((Int32 × Int64 × Int32 × Int32 × Int32 × qa_M) ⊕ ((Int32 × Int64 × Int32 × qa_M) ⊕ qa_M)) :=
  if ((h.1 22 4) - (1 : Int32)) ≤ x7 then (
   qup (f_X7_tally_b83 x2 x3 x5 x6 h))
  else (
   qck x7 4 (
   if (h.1 26 x7.toNatClampNeg) = x2 then (
    qck x7 4 (
    if ((q_lushr x3 (h.1 31 x7.toNatClampNeg)) &&& (1 : Int64)) = (0 : Int64) then (
     f_X7_tally_b77 x2 x3 x5 x6 x7 h)
    else (
     qbd (x6 + (1 : Int32)) (fun v74 : Int32 =>
     f_X7_tally_b77 x2 x3 x5 v74 x7 h))))
   else (
    f_X7_tally_b77 x2 x3 x5 x6 x7 h)))
set_option maxRecDepth 20000 in
theorem s_X7_tally_b36 {l : Launch} {g : qa_G} {d : Nat} {rz : Option Value} {hz : qa_M} (x2 : Int32) (x3 : Int64) (x5 : Int32) (x6 : Int32) (x7 : Int32) (h : qa_M) {z : ((Int32 × Int64 × Int32 × Int32 × Int32 × qa_M) ⊕ ((Int32 × Int64 × Int32 × qa_M) ⊕ qa_M))} (E : f_X7_tally_b36 x2 x3 x5 x6 x7 h = some z) (G : (Sum.elim (fun (sz : Int32 × Int64 × Int32 × Int32 × Int32 × qa_M) => qt_At l g (yX7_tally, cX7_tally, 8, none) (d + 4) 0 0 36 [(0, .ref (g.1 + 22)), (2, .int sz.1), (3, .long sz.2.1), (5, .int sz.2.2.1), (6, .int sz.2.2.2.1), (7, .int sz.2.2.2.2.1)] [] sz.2.2.2.2.2 rz hz) (Sum.elim (fun (sz : Int32 × Int64 × Int32 × qa_M) => qt_At l g (yX7_tally, cX7_tally, 8, none) (d + 4) 0 0 16 [(0, .ref (g.1 + 22)), (2, .int sz.1), (3, .long sz.2.1), (5, .int sz.2.2.1)] [] sz.2.2.2 rz hz) (qg_v rz hz))) z) : qt_At l g (yX7_tally, cX7_tally, 8, none) (d + 4) 0 0 36 [(0, .ref (g.1 + 22)), (2, .int x2), (3, .long x3), (5, .int x5), (6, .int x6), (7, .int x7)] [] h rz hz := by
  unfold f_X7_tally_b36 at E
  refine qt_iload 5 dX7_tally_36 rfl ?_
  refine qt_aload_n 0 dX7_tally_38 rfl rfl ?_
  refine qt_getI (wl_22 h) fe_RX7_62 rfl dX7_tally_39 ?_
  refine qt_iconst dX7_tally_42 ci_1 ?_
  refine qt_isub dX7_tally_43 ?_
  refine qt_icmp_ge 83 dX7_tally_44 (by decide) E (fun E => ?_) (fun E => ?_)
  · obtain ⟨z0_, E, G⟩ := qup_g E G
    exact qt_sub _ [0, 1, 2, 3, 4] rfl ((s_X7_tally_b83 x2 x3 x5 x6 h E G))
  · refine qt_aload_n 0 dX7_tally_47 rfl rfl ?_
    refine qt_getS 26 (wl_22 h) fe_RX7_22 rfl dX7_tally_48 ?_
    refine qt_iload 5 dX7_tally_51 rfl ?_
    refine qt_iald (wl_26 h) dX7_tally_53 E (fun E => ?_)
    refine qt_iload_n 1 dX7_tally_54 rfl rfl ?_
    refine qt_icmp_ne 77 dX7_tally_55 (by decide) E (fun E => ?_) (fun E => ?_)
    · exact qt_sub _ [0, 1, 2, 3, 4, 5] rfl ((s_X7_tally_b77 x2 x3 x5 x6 x7 h E G))
    · refine qt_lload_n 2 dX7_tally_58 rfl rfl ?_
      refine qt_aload_n 0 dX7_tally_59 rfl rfl ?_
      refine qt_getS 31 (wl_22 h) fe_RX7_37 rfl dX7_tally_60 ?_
      refine qt_iload 5 dX7_tally_63 rfl ?_
      refine qt_iald (wl_31 h) dX7_tally_65 E (fun E => ?_)
      refine qt_lushr dX7_tally_66 ?_
      refine qt_lconst dX7_tally_67 cl_1 ?_
      refine qt_land dX7_tally_68 ?_
      refine qt_lconst dX7_tally_69 cl_0 ?_
      refine qt_lc_eq 77 dX7_tally_70 dX7_tally_71 (by decide) E (fun E => ?_) (fun E => ?_)
      · exact qt_sub _ [0, 1, 2, 3, 4, 5] rfl ((s_X7_tally_b77 x2 x3 x5 x6 x7 h E G))
      · refine qt_iinc 4 (fun v74 => [(6, .int v74), (0, .ref (g.1 + 22)), (2, .int x2), (3, .long x3), (5, .int x5), (7, .int x7)]) dX7_tally_74 rfl ci_1 (Nat.le_of_ble_eq_true rfl) (fun _ => rfl) E (fun v74 E => ?_)
        exact qt_sub _ [1, 2, 3, 4, 0, 5] rfl ((s_X7_tally_b77 x2 x3 x5 v74 x7 h E G))
noncomputable def f_X7_tally_b36_loop (x2 : Int32) (x3 : Int64) (x5 : Int32) (x6 : Int32) (x7 : Int32) (h : qa_M) : Option ((Int32 × Int64 × Int32 × qa_M) ⊕ qa_M) := qlp (fun sz : Int32 × Int64 × Int32 × Int32 × Int32 × qa_M => f_X7_tally_b36 sz.1 sz.2.1 sz.2.2.1 sz.2.2.2.1 sz.2.2.2.2.1 sz.2.2.2.2.2) (x2, x3, x5, x6, x7, h)
theorem s_X7_tally_b36_loop {l : Launch} {g : qa_G} {d : Nat} {rz : Option Value} {hz : qa_M} (x2 : Int32) (x3 : Int64) (x5 : Int32) (x6 : Int32) (x7 : Int32) (h : qa_M) {z : ((Int32 × Int64 × Int32 × qa_M) ⊕ qa_M)} (E : f_X7_tally_b36_loop x2 x3 x5 x6 x7 h = some z) (G : (Sum.elim (fun (sz : Int32 × Int64 × Int32 × qa_M) => qt_At l g (yX7_tally, cX7_tally, 8, none) (d + 4) 0 0 16 [(0, .ref (g.1 + 22)), (2, .int sz.1), (3, .long sz.2.1), (5, .int sz.2.2.1)] [] sz.2.2.2 rz hz) (qg_v rz hz)) z) : qt_At l g (yX7_tally, cX7_tally, 8, none) (d + 4) 0 0 36 [(0, .ref (g.1 + 22)), (2, .int x2), (3, .long x3), (5, .int x5), (6, .int x6), (7, .int x7)] [] h rz hz :=
  qlp_ind (fun sz : Int32 × Int64 × Int32 × Int32 × Int32 × qa_M => qt_At l g (yX7_tally, cX7_tally, 8, none) (d + 4) 0 0 36 [(0, .ref (g.1 + 22)), (2, .int sz.1), (3, .long sz.2.1), (5, .int sz.2.2.1), (6, .int sz.2.2.2.1), (7, .int sz.2.2.2.2.1)] [] sz.2.2.2.2.2 rz hz) (fun sz E => s_X7_tally_b36 sz.1 sz.2.1 sz.2.2.1 sz.2.2.2.1 sz.2.2.2.2.1 sz.2.2.2.2.2 E G) (fun sz sz2 E ih => s_X7_tally_b36 sz.1 sz.2.1 sz.2.2.1 sz.2.2.2.1 sz.2.2.2.2.1 sz.2.2.2.2.2 E ih) (x2, x3, x5, x6, x7, h) E
noncomputable def f_X7_tally_b16 (x2 : Int32) (x3 : Int64) (x5 : Int32) (h : qa_M) : Option ((Int32 × Int64 × Int32 × qa_M) ⊕ qa_M) :=
  if (2000000 : Int32) ≤ x5 then (
   qup (some h))
  else (
   qbn (m_X7_step h) (fun (c24 : Int32) (h24 : qa_M) =>
   if c24 = 0 then (
    qup (some h24))
   else (
    qbd (0 : Int32) (fun v31 : Int32 =>
    qbd (0 : Int32) (fun v34 : Int32 =>
    f_X7_tally_b36_loop x2 x3 x5 v31 v34 h24)))))
set_option maxRecDepth 20000 in
theorem s_X7_tally_b16 {l : Launch} {g : qa_G} {d : Nat} {rz : Option Value} {hz : qa_M} (x2 : Int32) (x3 : Int64) (x5 : Int32) (h : qa_M) {z : ((Int32 × Int64 × Int32 × qa_M) ⊕ qa_M)} (E : f_X7_tally_b16 x2 x3 x5 h = some z) (G : (Sum.elim (fun (sz : Int32 × Int64 × Int32 × qa_M) => qt_At l g (yX7_tally, cX7_tally, 8, none) (d + 4) 0 0 16 [(0, .ref (g.1 + 22)), (2, .int sz.1), (3, .long sz.2.1), (5, .int sz.2.2.1)] [] sz.2.2.2 rz hz) (qg_v rz hz)) z) : qt_At l g (yX7_tally, cX7_tally, 8, none) (d + 4) 0 0 16 [(0, .ref (g.1 + 22)), (2, .int x2), (3, .long x3), (5, .int x5)] [] h rz hz := by
  unfold f_X7_tally_b16 at E
  refine qt_iload 3 dX7_tally_16 rfl ?_
  refine qt_ldc tb_1025 dX7_tally_18 ?_
  refine qt_icmp_ge 146 dX7_tally_20 (by decide) E (fun E => ?_) (fun E => ?_)
  · obtain ⟨z0_, E, G⟩ := qup_g E G
    exact qt_vreturn rfl (Nat.le_of_ble_eq_true rfl) dX7_tally_146 E G
  · refine qt_aload_n 0 dX7_tally_23 rfl rfl ?_
    obtain ⟨c24, h24, e24, E⟩ := qbn_el E
    refine qt_callVi (b2 := 0) [] (c_X7_step h e24) cv_RX7_171 (wl_22 h) rfl rfl rfl (Nat.le_of_ble_eq_true rfl) (Nat.le_of_ble_eq_true rfl) dX7_tally_24 ?_
    refine qt_if_eq 146 dX7_tally_27 (by decide) E (fun E => ?_) (fun E => ?_)
    · obtain ⟨z0_, E, G⟩ := qup_g E G
      exact qt_vreturn rfl (Nat.le_of_ble_eq_true rfl) dX7_tally_146 E G
    · refine qt_iconst dX7_tally_30 ci_0 ?_
      refine qt_istore (fun v31 => [(6, .int v31), (0, .ref (g.1 + 22)), (2, .int x2), (3, .long x3), (5, .int x5)]) dX7_tally_31 (Nat.le_of_ble_eq_true rfl) (fun _ => rfl) E (fun v31 E => ?_)
      refine qt_iconst dX7_tally_33 ci_0 ?_
      refine qt_istore (fun v34 => [(7, .int v34), (6, .int v31), (0, .ref (g.1 + 22)), (2, .int x2), (3, .long x3), (5, .int x5)]) dX7_tally_34 (Nat.le_of_ble_eq_true rfl) (fun _ => rfl) E (fun v34 E => ?_)
      exact qt_sub _ [2, 3, 4, 5, 1, 0] rfl ((s_X7_tally_b36_loop x2 x3 x5 v31 v34 h24 E G))
noncomputable def f_X7_tally_b16_loop (x2 : Int32) (x3 : Int64) (x5 : Int32) (h : qa_M) : Option qa_M := qlp (fun sz : Int32 × Int64 × Int32 × qa_M => f_X7_tally_b16 sz.1 sz.2.1 sz.2.2.1 sz.2.2.2) (x2, x3, x5, h)
theorem s_X7_tally_b16_loop {l : Launch} {g : qa_G} {d : Nat} {rz : Option Value} {hz : qa_M} (x2 : Int32) (x3 : Int64) (x5 : Int32) (h : qa_M) {z : qa_M} (E : f_X7_tally_b16_loop x2 x3 x5 h = some z) (G : (qg_v rz hz) z) : qt_At l g (yX7_tally, cX7_tally, 8, none) (d + 4) 0 0 16 [(0, .ref (g.1 + 22)), (2, .int x2), (3, .long x3), (5, .int x5)] [] h rz hz :=
  qlp_ind (fun sz : Int32 × Int64 × Int32 × qa_M => qt_At l g (yX7_tally, cX7_tally, 8, none) (d + 4) 0 0 16 [(0, .ref (g.1 + 22)), (2, .int sz.1), (3, .long sz.2.1), (5, .int sz.2.2.1)] [] sz.2.2.2 rz hz) (fun sz E => s_X7_tally_b16 sz.1 sz.2.1 sz.2.2.1 sz.2.2.2 E G) (fun sz sz2 E ih => s_X7_tally_b16 sz.1 sz.2.1 sz.2.2.1 sz.2.2.2 E ih) (x2, x3, x5, h) E
noncomputable def m_X7_tally (x1 : Int32) (x2 : Int32) (x3 : Int64) (h : qa_M) : Option qa_M :=
  qbv (m_J7_fill_53178 33 (0 : Int32) h) (fun h5 : qa_M =>
  qbv (m_X7_start x1 h5) (fun h10 : qa_M =>
  qbd (0 : Int32) (fun v14 : Int32 =>
  f_X7_tally_b16_loop x2 x3 v14 h10)))
set_option maxRecDepth 20000 in
theorem c_X7_tally {l : Launch} {g : qa_G} {d : Nat} (x1 : Int32) (x2 : Int32) (x3 : Int64) (h : qa_M) {h1 : qa_M} (E : m_X7_tally x1 x2 x3 h = some h1) : qt_Met l g (yX7_tally, cX7_tally, 8, none) (d + 4) 0 [.ref (g.1 + 22), .int x1, .int x2, .long x3] h none h1 := by
  refine qt_Met.of (plainFor_of_name (by decide)) (Nat.le_of_ble_eq_true rfl) ?_
  have G : qg_v none h1 (h1) := ⟨rfl, rfl⟩
  unfold m_X7_tally at E
  refine qt_aload_n 0 dX7_tally_0 rfl rfl ?_
  refine qt_getS 33 (wl_22 h) fe_RX7_43 rfl dX7_tally_1 ?_
  refine qt_iconst dX7_tally_4 ci_0 ?_
  obtain ⟨h5, e5, E⟩ := qbv_el E
  refine qt_callSv (b2 := 0) [.ref (g.1 + 33), .int (0 : Int32)] (c_J7_fill_53178 33 (0 : Int32) h e5) cv_RX7_80 rfl (Nat.le_of_ble_eq_true rfl) (Nat.le_of_ble_eq_true rfl) dX7_tally_5 ?_
  refine qt_aload_n 0 dX7_tally_8 rfl rfl ?_
  refine qt_iload_n 1 dX7_tally_9 rfl rfl ?_
  obtain ⟨h10, e10, E⟩ := qbv_el E
  refine qt_callVv (b2 := 0) [.int x1] (c_X7_start x1 h5 e10) cv_RX7_167 (wl_22 h5) rfl rfl rfl (Nat.le_of_ble_eq_true rfl) (Nat.le_of_ble_eq_true rfl) dX7_tally_10 ?_
  refine qt_iconst dX7_tally_13 ci_0 ?_
  refine qt_istore (fun v14 => [(5, .int v14), (0, .ref (g.1 + 22)), (1, .int x1), (2, .int x2), (3, .long x3)]) dX7_tally_14 (Nat.le_of_ble_eq_true rfl) (fun _ => rfl) E (fun v14 E => ?_)
  exact qt_sub _ [1, 3, 4, 0] rfl ((s_X7_tally_b16_loop x2 x3 v14 h10 E G))
noncomputable def m_X11_may (x1 : Int32) (x2 : Int32) (x3 : Int32) (x4 : Int32) (h : qa_M) : Option (Int32 × qa_M) :=
  qbn (m_X11_known x1 h) (fun (c2 : Int32) (h2 : qa_M) =>
  if c2 = 0 then (
   some ((-1 : Int32), h2))
  else (
   qbn (m_X3_holds x2 x3 h2) (fun (c17 : Int32) (h17 : qa_M) =>
   if c17 = 0 then (
    some ((-1 : Int32), h17))
   else (
    qbn (m_X11_within x4 (h17.1 4 4) h17) (fun (c35 : Int32) (h35 : qa_M) =>
    if c35 = 0 then (
     some ((-1 : Int32), h35))
    else (
     qbv (m_X11_prepare h35) (fun h44 : qa_M =>
     qbn (m_X2_bit x2 x3 h44) (fun (c56 : Int64) (h56 : qa_M) =>
     qbv (m_X7_tally x1 x4 c56 h56) (fun h59 : qa_M =>
     qck (1 : Int32) 5 (
     if (h59.1 33 (1 : Int32).toNatClampNeg) = 0 then (
      some ((0 : Int32), h59))
     else (
      qck (0 : Int32) 5 (
      if (h59.1 33 (0 : Int32).toNatClampNeg) = 0 then (
       some ((2 : Int32), h59))
      else (
       some ((1 : Int32), h59))))))))))))))
set_option maxRecDepth 20000 in
theorem c_X11_may {l : Launch} {g : qa_G} {d : Nat} (x1 : Int32) (x2 : Int32) (x3 : Int32) (x4 : Int32) (h : qa_M) {c : Int32} {h1 : qa_M} (E : m_X11_may x1 x2 x3 x4 h = some (c, h1)) : qt_Met l g (yX11_may, cX11_may, 5, (some .int)) (d + 6) 0 [.ref (g.1 + 0), .int x1, .int x2, .int x3, .int x4] h (some (.int c)) h1 := by
  refine qt_Met.of (plainFor_of_name (by decide)) (Nat.le_of_ble_eq_true rfl) ?_
  have G : qg_i (some (.int c)) h1 ((c, h1)) := ⟨rfl, rfl⟩
  unfold m_X11_may at E
  refine qt_aload_n 0 dX11_may_0 rfl rfl ?_
  refine qt_iload_n 1 dX11_may_1 rfl rfl ?_
  obtain ⟨c2, h2, e2, E⟩ := qbn_el E
  refine qt_callVi (b2 := 0) [.int x1] (c_X11_known x1 h e2) cv_RX11_187 (wl_0 h) rfl rfl rfl (Nat.le_of_ble_eq_true rfl) (Nat.le_of_ble_eq_true rfl) dX11_may_2 ?_
  refine qt_if_eq 41 dX11_may_5 (by decide) E (fun E => ?_) (fun E => ?_)
  · refine qt_iconst dX11_may_41 ci_m1 ?_
    exact qt_ireturn rfl (Nat.le_of_ble_eq_true rfl) dX11_may_42 E G
  · refine qt_aload_n 0 dX11_may_8 rfl rfl ?_
    refine qt_getS 3 (wl_0 h2) fe_RX11_19 rfl dX11_may_9 ?_
    refine qt_getS 4 (wl_3 h2) fe_RX11_108 rfl dX11_may_12 ?_
    refine qt_iload_n 2 dX11_may_15 rfl rfl ?_
    refine qt_iload_n 3 dX11_may_16 rfl rfl ?_
    obtain ⟨c17, h17, e17, E⟩ := qbn_el E
    refine qt_callVi (b2 := 0) [.int x2, .int x3] (c_X3_holds x2 x3 h2 e17) cv_RX11_144 (wl_4 h2) rfl rfl rfl (Nat.le_of_ble_eq_true rfl) (Nat.le_of_ble_eq_true rfl) dX11_may_17 ?_
    refine qt_if_eq 41 dX11_may_20 (by decide) E (fun E => ?_) (fun E => ?_)
    · refine qt_iconst dX11_may_41 ci_m1 ?_
      exact qt_ireturn rfl (Nat.le_of_ble_eq_true rfl) dX11_may_42 E G
    · refine qt_iload 4 dX11_may_23 rfl ?_
      refine qt_aload_n 0 dX11_may_25 rfl rfl ?_
      refine qt_getS 3 (wl_0 h17) fe_RX11_19 rfl dX11_may_26 ?_
      refine qt_getS 4 (wl_3 h17) fe_RX11_108 rfl dX11_may_29 ?_
      refine qt_getI (wl_4 h17) fe_RX11_137 rfl dX11_may_32 ?_
      obtain ⟨c35, h35, e35, E⟩ := qbn_el E
      refine qt_callSi (b2 := 0) [.int x4, .int (h17.1 4 4)] (c_X11_within x4 (h17.1 4 4) h17 e35) cv_RX11_130 rfl (Nat.le_of_ble_eq_true rfl) (Nat.le_of_ble_eq_true rfl) dX11_may_35 ?_
      refine qt_if_ne 43 dX11_may_38 (by decide) E (fun E => ?_) (fun E => ?_)
      · refine qt_aload_n 0 dX11_may_43 rfl rfl ?_
        obtain ⟨h44, e44, E⟩ := qbv_el E
        refine qt_callVv (b2 := 0) [] (c_X11_prepare h35 e44) cv_RX11_164 (wl_0 h35) rfl rfl rfl (Nat.le_of_ble_eq_true rfl) (Nat.le_of_ble_eq_true rfl) dX11_may_44 ?_
        refine qt_aload_n 0 dX11_may_47 rfl rfl ?_
        refine qt_getS 22 (wl_0 h44) fe_RX11_67 rfl dX11_may_48 ?_
        refine qt_iload_n 1 dX11_may_51 rfl rfl ?_
        refine qt_iload 4 dX11_may_52 rfl ?_
        refine qt_iload_n 2 dX11_may_54 rfl rfl ?_
        refine qt_iload_n 3 dX11_may_55 rfl rfl ?_
        obtain ⟨c56, h56, e56, E⟩ := qbn_el E
        refine qt_callSl (b2 := 0) [.int x2, .int x3] (c_X2_bit x2 x3 h44 e56) cv_RX11_194 rfl (Nat.le_of_ble_eq_true rfl) (Nat.le_of_ble_eq_true rfl) dX11_may_56 ?_
        obtain ⟨h59, e59, E⟩ := qbv_el E
        refine qt_callVv (b2 := 0) [.int x1, .int x4, .long c56] (c_X7_tally x1 x4 c56 h56 e59) cv_RX11_200 (wl_22 h56) rfl rfl rfl (Nat.le_of_ble_eq_true rfl) (Nat.le_of_ble_eq_true rfl) dX11_may_59 ?_
        refine qt_aload_n 0 dX11_may_62 rfl rfl ?_
        refine qt_getS 22 (wl_0 h59) fe_RX11_67 rfl dX11_may_63 ?_
        refine qt_getS 33 (wl_22 h59) fe_RX11_204 rfl dX11_may_66 ?_
        refine qt_iconst dX11_may_69 ci_1 ?_
        refine qt_iald (wl_33 h59) dX11_may_70 E (fun E => ?_)
        refine qt_if_ne 76 dX11_may_71 (by decide) E (fun E => ?_) (fun E => ?_)
        · refine qt_aload_n 0 dX11_may_76 rfl rfl ?_
          refine qt_getS 22 (wl_0 h59) fe_RX11_67 rfl dX11_may_77 ?_
          refine qt_getS 33 (wl_22 h59) fe_RX11_204 rfl dX11_may_80 ?_
          refine qt_iconst dX11_may_83 ci_0 ?_
          refine qt_iald (wl_33 h59) dX11_may_84 E (fun E => ?_)
          refine qt_if_ne 92 dX11_may_85 (by decide) E (fun E => ?_) (fun E => ?_)
          · refine qt_iconst dX11_may_92 ci_1 ?_
            exact qt_ireturn rfl (Nat.le_of_ble_eq_true rfl) dX11_may_93 E G
          · refine qt_iconst dX11_may_88 ci_2 ?_
            refine qt_goto 93 dX11_may_89 (by decide) ?_
            exact qt_ireturn rfl (Nat.le_of_ble_eq_true rfl) dX11_may_93 E G
        · refine qt_iconst dX11_may_74 ci_0 ?_
          exact qt_ireturn rfl (Nat.le_of_ble_eq_true rfl) dX11_may_75 E G
      · refine qt_iconst dX11_may_41 ci_m1 ?_
        exact qt_ireturn rfl (Nat.le_of_ble_eq_true rfl) dX11_may_42 E G
noncomputable def f_X11_commonDivisor_b7 (x2 : Int32) (x3 : Int32) (x4 : Int32) (h : qa_M) : Option ((Int32 × Int32 × Int32 × qa_M) ⊕ (Int32 × qa_M)) :=
  if (64 : Int32) ≤ x4 then (
   qup (some (x2, h)))
  else (
   if x3 = 0 then (
    qup (some (x2, h)))
   else (
    qnz (x3 = 0) (
    qbd (x2 - x2 / x3 * x3) (fun v21 : Int32 =>
    qbd x3 (fun v24 : Int32 =>
    qbd v21 (fun v27 : Int32 =>
    qbd (x4 + (1 : Int32)) (fun v28 : Int32 =>
    some (.inl (v24, v27, v28, h)))))))))
set_option maxRecDepth 20000 in
theorem s_X11_commonDivisor_b7 {l : Launch} {g : qa_G} {d : Nat} {rz : Option Value} {hz : qa_M} (x2 : Int32) (x3 : Int32) (x4 : Int32) (h : qa_M) {z : ((Int32 × Int32 × Int32 × qa_M) ⊕ (Int32 × qa_M))} (E : f_X11_commonDivisor_b7 x2 x3 x4 h = some z) (G : (Sum.elim (fun (sz : Int32 × Int32 × Int32 × qa_M) => qt_At l g (yX11_commonDivisor, cX11_commonDivisor, 6, (some .int)) d 0 0 7 [(2, .int sz.1), (3, .int sz.2.1), (4, .int sz.2.2.1)] [] sz.2.2.2 rz hz) (qg_i rz hz)) z) : qt_At l g (yX11_commonDivisor, cX11_commonDivisor, 6, (some .int)) d 0 0 7 [(2, .int x2), (3, .int x3), (4, .int x4)] [] h rz hz := by
  unfold f_X11_commonDivisor_b7 at E
  refine qt_iload 2 dX11_commonDivisor_7 rfl ?_
  refine qt_bipush dX11_commonDivisor_9 cb_64 ?_
  refine qt_icmp_ge 34 dX11_commonDivisor_11 (by decide) E (fun E => ?_) (fun E => ?_)
  · refine qt_iload_n 0 dX11_commonDivisor_34 rfl rfl ?_
    obtain ⟨z0_, E, G⟩ := qup_g E G
    exact qt_ireturn rfl (Nat.le_of_ble_eq_true rfl) dX11_commonDivisor_35 E G
  · refine qt_iload_n 1 dX11_commonDivisor_14 rfl rfl ?_
    refine qt_if_eq 34 dX11_commonDivisor_15 (by decide) E (fun E => ?_) (fun E => ?_)
    · refine qt_iload_n 0 dX11_commonDivisor_34 rfl rfl ?_
      obtain ⟨z0_, E, G⟩ := qup_g E G
      exact qt_ireturn rfl (Nat.le_of_ble_eq_true rfl) dX11_commonDivisor_35 E G
    · refine qt_iload_n 0 dX11_commonDivisor_18 rfl rfl ?_
      refine qt_iload_n 1 dX11_commonDivisor_19 rfl rfl ?_
      refine qt_irem dX11_commonDivisor_20 E (fun E => ?_)
      refine qt_istore (fun v21 => [(5, .int v21), (2, .int x2), (3, .int x3), (4, .int x4)]) dX11_commonDivisor_21 (Nat.le_of_ble_eq_true rfl) (fun _ => rfl) E (fun v21 E => ?_)
      refine qt_iload_n 2 dX11_commonDivisor_23 rfl rfl ?_
      refine qt_istore_n (fun v24 => [(2, .int v24), (5, .int v21), (3, .int x3), (4, .int x4)]) dX11_commonDivisor_24 rfl (Nat.le_of_ble_eq_true rfl) (fun _ => rfl) E (fun v24 E => ?_)
      refine qt_iload 1 dX11_commonDivisor_25 rfl ?_
      refine qt_istore_n (fun v27 => [(3, .int v27), (2, .int v24), (5, .int v21), (4, .int x4)]) dX11_commonDivisor_27 rfl (Nat.le_of_ble_eq_true rfl) (fun _ => rfl) E (fun v27 E => ?_)
      refine qt_iinc 3 (fun v28 => [(4, .int v28), (3, .int v27), (2, .int v24), (5, .int v21)]) dX11_commonDivisor_28 rfl ci_1 (Nat.le_of_ble_eq_true rfl) (fun _ => rfl) E (fun v28 E => ?_)
      refine qt_goto 7 dX11_commonDivisor_31 (by decide) ?_
      cases E
      exact qt_sub _ [2, 1, 0] rfl (G)
noncomputable def f_X11_commonDivisor_b7_loop (x2 : Int32) (x3 : Int32) (x4 : Int32) (h : qa_M) : Option (Int32 × qa_M) := qlp (fun sz : Int32 × Int32 × Int32 × qa_M => f_X11_commonDivisor_b7 sz.1 sz.2.1 sz.2.2.1 sz.2.2.2) (x2, x3, x4, h)
theorem s_X11_commonDivisor_b7_loop {l : Launch} {g : qa_G} {d : Nat} {rz : Option Value} {hz : qa_M} (x2 : Int32) (x3 : Int32) (x4 : Int32) (h : qa_M) {z : (Int32 × qa_M)} (E : f_X11_commonDivisor_b7_loop x2 x3 x4 h = some z) (G : (qg_i rz hz) z) : qt_At l g (yX11_commonDivisor, cX11_commonDivisor, 6, (some .int)) d 0 0 7 [(2, .int x2), (3, .int x3), (4, .int x4)] [] h rz hz :=
  qlp_ind (fun sz : Int32 × Int32 × Int32 × qa_M => qt_At l g (yX11_commonDivisor, cX11_commonDivisor, 6, (some .int)) d 0 0 7 [(2, .int sz.1), (3, .int sz.2.1), (4, .int sz.2.2.1)] [] sz.2.2.2 rz hz) (fun sz E => s_X11_commonDivisor_b7 sz.1 sz.2.1 sz.2.2.1 sz.2.2.2 E G) (fun sz sz2 E ih => s_X11_commonDivisor_b7 sz.1 sz.2.1 sz.2.2.1 sz.2.2.2 E ih) (x2, x3, x4, h) E
noncomputable def m_X11_commonDivisor (x0 : Int32) (x1 : Int32) (h : qa_M) : Option (Int32 × qa_M) :=
  qbd x0 (fun v1 : Int32 =>
  qbd x1 (fun v3 : Int32 =>
  qbd (0 : Int32) (fun v5 : Int32 =>
  f_X11_commonDivisor_b7_loop v1 v3 v5 h)))
set_option maxRecDepth 20000 in
theorem c_X11_commonDivisor {l : Launch} {g : qa_G} {d : Nat} (x0 : Int32) (x1 : Int32) (h : qa_M) {c : Int32} {h1 : qa_M} (E : m_X11_commonDivisor x0 x1 h = some (c, h1)) : qt_Met l g (yX11_commonDivisor, cX11_commonDivisor, 6, (some .int)) d 0 [.int x0, .int x1] h (some (.int c)) h1 := by
  refine qt_Met.of (plainFor_of_name (by decide)) (Nat.le_of_ble_eq_true rfl) ?_
  have G : qg_i (some (.int c)) h1 ((c, h1)) := ⟨rfl, rfl⟩
  unfold m_X11_commonDivisor at E
  refine qt_iload_n 0 dX11_commonDivisor_0 rfl rfl ?_
  refine qt_istore_n (fun v1 => [(2, .int v1), (0, .int x0), (1, .int x1)]) dX11_commonDivisor_1 rfl (Nat.le_of_ble_eq_true rfl) (fun _ => rfl) E (fun v1 E => ?_)
  refine qt_iload_n 2 dX11_commonDivisor_2 rfl rfl ?_
  refine qt_istore_n (fun v3 => [(3, .int v3), (2, .int v1), (0, .int x0), (1, .int x1)]) dX11_commonDivisor_3 rfl (Nat.le_of_ble_eq_true rfl) (fun _ => rfl) E (fun v3 E => ?_)
  refine qt_iconst dX11_commonDivisor_4 ci_0 ?_
  refine qt_istore (fun v5 => [(4, .int v5), (3, .int v3), (2, .int v1), (0, .int x0), (1, .int x1)]) dX11_commonDivisor_5 (Nat.le_of_ble_eq_true rfl) (fun _ => rfl) E (fun v5 E => ?_)
  exact qt_sub _ [2, 1, 0] rfl ((s_X11_commonDivisor_b7_loop v1 v3 v5 h E G))
noncomputable def f_X11_odds_b125 (x8 : Int32) (s0 : Int32) (h : qa_M) : Option (Int32 × qa_M) :=
  qnz (x8 = 0) (
  some ((s0 / x8), h))
set_option maxRecDepth 20000 in
theorem s_X11_odds_b125 {l : Launch} {g : qa_G} {d : Nat} {rz : Option Value} {hz : qa_M} (x8 : Int32) (s0 : Int32) (h : qa_M) {z : (Int32 × qa_M)} (E : f_X11_odds_b125 x8 s0 h = some z) (G : (qg_i rz hz) z) : qt_At l g (yX11_odds, cX11_odds, 9, (some .int)) (d + 6) 0 0 125 [(8, .int x8)] [.int s0] h rz hz := by
  unfold f_X11_odds_b125 at E
  refine qt_iload 0 dX11_odds_125 rfl ?_
  refine qt_idiv dX11_odds_127 E (fun E => ?_)
  exact qt_ireturn rfl (Nat.le_of_ble_eq_true rfl) dX11_odds_128 E G
noncomputable def m_X11_odds (x1 : Int32) (x2 : Int32) (x3 : Int32) (x4 : Int32) (x5 : Int32) (h : qa_M) : Option (Int32 × qa_M) :=
  qbn (m_X11_known x1 h) (fun (c2 : Int32) (h2 : qa_M) =>
  if c2 = 0 then (
   some ((-1 : Int32), h2))
  else (
   qbn (m_X3_holds x2 x3 h2) (fun (c17 : Int32) (h17 : qa_M) =>
   if c17 = 0 then (
    some ((-1 : Int32), h17))
   else (
    qbn (m_X11_within x4 (h17.1 4 4) h17) (fun (c35 : Int32) (h35 : qa_M) =>
    if c35 = 0 then (
     some ((-1 : Int32), h35))
    else (
     qbn (m_X11_within x5 (2 : Int32) h35) (fun (c44 : Int32) (h44 : qa_M) =>
     if c44 = 0 then (
      some ((-1 : Int32), h44))
     else (
      qbv (m_X11_prepare h44) (fun h53 : qa_M =>
      qbn (m_X2_bit x2 x3 h53) (fun (c65 : Int64) (h65 : qa_M) =>
      qbv (m_X7_tally x1 x4 c65 h65) (fun h68 : qa_M =>
      qck (1 : Int32) 5 (
      qbd (h68.1 33 (1 : Int32).toNatClampNeg) (fun v80 : Int32 =>
      qck (0 : Int32) 5 (
      qbd (v80 + (h68.1 33 (0 : Int32).toNatClampNeg)) (fun v94 : Int32 =>
      qbn (m_X11_commonDivisor v80 v94 h68) (fun (c100 : Int32) (h100 : qa_M) =>
      qbd c100 (fun v103 : Int32 =>
      if v103 = 0 then (
       some (x5, h100))
      else (
       if x5 = 0 then (
        f_X11_odds_b125 v103 v80 h100)
       else (
        f_X11_odds_b125 v103 v94 h100)))))))))))))))))))
set_option maxRecDepth 20000 in
theorem c_X11_odds {l : Launch} {g : qa_G} {d : Nat} (x1 : Int32) (x2 : Int32) (x3 : Int32) (x4 : Int32) (x5 : Int32) (h : qa_M) {c : Int32} {h1 : qa_M} (E : m_X11_odds x1 x2 x3 x4 x5 h = some (c, h1)) : qt_Met l g (yX11_odds, cX11_odds, 9, (some .int)) (d + 6) 0 [.ref (g.1 + 0), .int x1, .int x2, .int x3, .int x4, .int x5] h (some (.int c)) h1 := by
  refine qt_Met.of (plainFor_of_name (by decide)) (Nat.le_of_ble_eq_true rfl) ?_
  have G : qg_i (some (.int c)) h1 ((c, h1)) := ⟨rfl, rfl⟩
  unfold m_X11_odds at E
  refine qt_aload_n 0 dX11_odds_0 rfl rfl ?_
  refine qt_iload_n 1 dX11_odds_1 rfl rfl ?_
  obtain ⟨c2, h2, e2, E⟩ := qbn_el E
  refine qt_callVi (b2 := 0) [.int x1] (c_X11_known x1 h e2) cv_RX11_187 (wl_0 h) rfl rfl rfl (Nat.le_of_ble_eq_true rfl) (Nat.le_of_ble_eq_true rfl) dX11_odds_2 ?_
  refine qt_if_eq 50 dX11_odds_5 (by decide) E (fun E => ?_) (fun E => ?_)
  · refine qt_iconst dX11_odds_50 ci_m1 ?_
    exact qt_ireturn rfl (Nat.le_of_ble_eq_true rfl) dX11_odds_51 E G
  · refine qt_aload_n 0 dX11_odds_8 rfl rfl ?_
    refine qt_getS 3 (wl_0 h2) fe_RX11_19 rfl dX11_odds_9 ?_
    refine qt_getS 4 (wl_3 h2) fe_RX11_108 rfl dX11_odds_12 ?_
    refine qt_iload_n 2 dX11_odds_15 rfl rfl ?_
    refine qt_iload_n 3 dX11_odds_16 rfl rfl ?_
    obtain ⟨c17, h17, e17, E⟩ := qbn_el E
    refine qt_callVi (b2 := 0) [.int x2, .int x3] (c_X3_holds x2 x3 h2 e17) cv_RX11_144 (wl_4 h2) rfl rfl rfl (Nat.le_of_ble_eq_true rfl) (Nat.le_of_ble_eq_true rfl) dX11_odds_17 ?_
    refine qt_if_eq 50 dX11_odds_20 (by decide) E (fun E => ?_) (fun E => ?_)
    · refine qt_iconst dX11_odds_50 ci_m1 ?_
      exact qt_ireturn rfl (Nat.le_of_ble_eq_true rfl) dX11_odds_51 E G
    · refine qt_iload 4 dX11_odds_23 rfl ?_
      refine qt_aload_n 0 dX11_odds_25 rfl rfl ?_
      refine qt_getS 3 (wl_0 h17) fe_RX11_19 rfl dX11_odds_26 ?_
      refine qt_getS 4 (wl_3 h17) fe_RX11_108 rfl dX11_odds_29 ?_
      refine qt_getI (wl_4 h17) fe_RX11_137 rfl dX11_odds_32 ?_
      obtain ⟨c35, h35, e35, E⟩ := qbn_el E
      refine qt_callSi (b2 := 0) [.int x4, .int (h17.1 4 4)] (c_X11_within x4 (h17.1 4 4) h17 e35) cv_RX11_130 rfl (Nat.le_of_ble_eq_true rfl) (Nat.le_of_ble_eq_true rfl) dX11_odds_35 ?_
      refine qt_if_eq 50 dX11_odds_38 (by decide) E (fun E => ?_) (fun E => ?_)
      · refine qt_iconst dX11_odds_50 ci_m1 ?_
        exact qt_ireturn rfl (Nat.le_of_ble_eq_true rfl) dX11_odds_51 E G
      · refine qt_iload 5 dX11_odds_41 rfl ?_
        refine qt_iconst dX11_odds_43 ci_2 ?_
        obtain ⟨c44, h44, e44, E⟩ := qbn_el E
        refine qt_callSi (b2 := 0) [.int x5, .int (2 : Int32)] (c_X11_within x5 (2 : Int32) h35 e44) cv_RX11_130 rfl (Nat.le_of_ble_eq_true rfl) (Nat.le_of_ble_eq_true rfl) dX11_odds_44 ?_
        refine qt_if_ne 52 dX11_odds_47 (by decide) E (fun E => ?_) (fun E => ?_)
        · refine qt_aload_n 0 dX11_odds_52 rfl rfl ?_
          obtain ⟨h53, e53, E⟩ := qbv_el E
          refine qt_callVv (b2 := 0) [] (c_X11_prepare h44 e53) cv_RX11_164 (wl_0 h44) rfl rfl rfl (Nat.le_of_ble_eq_true rfl) (Nat.le_of_ble_eq_true rfl) dX11_odds_53 ?_
          refine qt_aload_n 0 dX11_odds_56 rfl rfl ?_
          refine qt_getS 22 (wl_0 h53) fe_RX11_67 rfl dX11_odds_57 ?_
          refine qt_iload_n 1 dX11_odds_60 rfl rfl ?_
          refine qt_iload 4 dX11_odds_61 rfl ?_
          refine qt_iload_n 2 dX11_odds_63 rfl rfl ?_
          refine qt_iload_n 3 dX11_odds_64 rfl rfl ?_
          obtain ⟨c65, h65, e65, E⟩ := qbn_el E
          refine qt_callSl (b2 := 0) [.int x2, .int x3] (c_X2_bit x2 x3 h53 e65) cv_RX11_194 rfl (Nat.le_of_ble_eq_true rfl) (Nat.le_of_ble_eq_true rfl) dX11_odds_65 ?_
          obtain ⟨h68, e68, E⟩ := qbv_el E
          refine qt_callVv (b2 := 0) [.int x1, .int x4, .long c65] (c_X7_tally x1 x4 c65 h65 e68) cv_RX11_200 (wl_22 h65) rfl rfl rfl (Nat.le_of_ble_eq_true rfl) (Nat.le_of_ble_eq_true rfl) dX11_odds_68 ?_
          refine qt_aload_n 0 dX11_odds_71 rfl rfl ?_
          refine qt_getS 22 (wl_0 h68) fe_RX11_67 rfl dX11_odds_72 ?_
          refine qt_getS 33 (wl_22 h68) fe_RX11_204 rfl dX11_odds_75 ?_
          refine qt_iconst dX11_odds_78 ci_1 ?_
          refine qt_iald (wl_33 h68) dX11_odds_79 E (fun E => ?_)
          refine qt_istore (fun v80 => [(6, .int v80), (0, .ref (g.1 + 0)), (1, .int x1), (2, .int x2), (3, .int x3), (4, .int x4), (5, .int x5)]) dX11_odds_80 (Nat.le_of_ble_eq_true rfl) (fun _ => rfl) E (fun v80 E => ?_)
          refine qt_iload 0 dX11_odds_82 rfl ?_
          refine qt_aload_n 1 dX11_odds_84 rfl rfl ?_
          refine qt_getS 22 (wl_0 h68) fe_RX11_67 rfl dX11_odds_85 ?_
          refine qt_getS 33 (wl_22 h68) fe_RX11_204 rfl dX11_odds_88 ?_
          refine qt_iconst dX11_odds_91 ci_0 ?_
          refine qt_iald (wl_33 h68) dX11_odds_92 E (fun E => ?_)
          refine qt_iadd dX11_odds_93 ?_
          refine qt_istore (fun v94 => [(7, .int v94), (6, .int v80), (0, .ref (g.1 + 0)), (1, .int x1), (2, .int x2), (3, .int x3), (4, .int x4), (5, .int x5)]) dX11_odds_94 (Nat.le_of_ble_eq_true rfl) (fun _ => rfl) E (fun v94 E => ?_)
          refine qt_iload 1 dX11_odds_96 rfl ?_
          refine qt_iload 0 dX11_odds_98 rfl ?_
          obtain ⟨c100, h100, e100, E⟩ := qbn_el E
          refine qt_callSi (b2 := 0) [.int v80, .int v94] (c_X11_commonDivisor v80 v94 h68 e100) cv_RX11_208 rfl (Nat.le_of_ble_eq_true rfl) (Nat.le_of_ble_eq_true rfl) dX11_odds_100 ?_
          refine qt_istore (fun v103 => [(8, .int v103), (7, .int v94), (6, .int v80), (0, .ref (g.1 + 0)), (1, .int x1), (2, .int x2), (3, .int x3), (4, .int x4), (5, .int x5)]) dX11_odds_103 (Nat.le_of_ble_eq_true rfl) (fun _ => rfl) E (fun v103 E => ?_)
          refine qt_iload 0 dX11_odds_105 rfl ?_
          refine qt_if_ne 113 dX11_odds_107 (by decide) E (fun E => ?_) (fun E => ?_)
          · refine qt_iload 8 dX11_odds_113 rfl ?_
            refine qt_if_ne 123 dX11_odds_115 (by decide) E (fun E => ?_) (fun E => ?_)
            · refine qt_iload 1 dX11_odds_123 rfl ?_
              exact qt_sub _ [0] rfl ((s_X11_odds_b125 v103 v94 h100 E G))
            · refine qt_iload 2 dX11_odds_118 rfl ?_
              refine qt_goto 125 dX11_odds_120 (by decide) ?_
              exact qt_sub _ [0] rfl ((s_X11_odds_b125 v103 v80 h100 E G))
          · refine qt_iload 8 dX11_odds_110 rfl ?_
            exact qt_ireturn rfl (Nat.le_of_ble_eq_true rfl) dX11_odds_112 E G
        · refine qt_iconst dX11_odds_50 ci_m1 ?_
          exact qt_ireturn rfl (Nat.le_of_ble_eq_true rfl) dX11_odds_51 E G
noncomputable def f_X7_nth_b23 (x3 : Int64) (h : qa_M) : Option (Int32 × qa_M) :=
  qbn (m_X2_lowest x3 h) (fun (c24 : Int32) (h24 : qa_M) =>
  some (c24, h24))
set_option maxRecDepth 20000 in
theorem s_X7_nth_b23 {l : Launch} {g : qa_G} {d : Nat} {rz : Option Value} {hz : qa_M} (x3 : Int64) (h : qa_M) {z : (Int32 × qa_M)} (E : f_X7_nth_b23 x3 h = some z) (G : (qg_i rz hz) z) : qt_At l g (yX7_nth, cX7_nth, 6, (some .int)) (d + 2) 0 0 23 [(3, .long x3)] [] h rz hz := by
  unfold f_X7_nth_b23 at E
  refine qt_lload_n 0 dX7_nth_23 rfl rfl ?_
  obtain ⟨c24, h24, e24, E⟩ := qbn_el E
  refine qt_callSi (b2 := 0) [.long x3] (c_X2_lowest x3 h e24) cv_RX7_152 rfl (Nat.le_of_ble_eq_true rfl) (Nat.le_of_ble_eq_true rfl) dX7_nth_24 ?_
  exact qt_ireturn rfl (Nat.le_of_ble_eq_true rfl) dX7_nth_27 E G
noncomputable def f_X7_nth_b5 (x2 : Int32) (x3 : Int64) (x5 : Int32) (h : qa_M) : Option ((Int32 × Int64 × Int32 × qa_M) ⊕ (Int32 × qa_M)) :=
  if x2 ≤ x5 then (
   qup (f_X7_nth_b23 x3 h))
  else (
   qbd (x3 &&& (x3 - (1 : Int64))) (fun v16 : Int64 =>
   qbd (x5 + (1 : Int32)) (fun v17 : Int32 =>
   some (.inl (x2, v16, v17, h)))))
set_option maxRecDepth 20000 in
theorem s_X7_nth_b5 {l : Launch} {g : qa_G} {d : Nat} {rz : Option Value} {hz : qa_M} (x2 : Int32) (x3 : Int64) (x5 : Int32) (h : qa_M) {z : ((Int32 × Int64 × Int32 × qa_M) ⊕ (Int32 × qa_M))} (E : f_X7_nth_b5 x2 x3 x5 h = some z) (G : (Sum.elim (fun (sz : Int32 × Int64 × Int32 × qa_M) => qt_At l g (yX7_nth, cX7_nth, 6, (some .int)) (d + 2) 0 0 5 [(2, .int sz.1), (3, .long sz.2.1), (5, .int sz.2.2.1)] [] sz.2.2.2 rz hz) (qg_i rz hz)) z) : qt_At l g (yX7_nth, cX7_nth, 6, (some .int)) (d + 2) 0 0 5 [(2, .int x2), (3, .long x3), (5, .int x5)] [] h rz hz := by
  unfold f_X7_nth_b5 at E
  refine qt_iload 2 dX7_nth_5 rfl ?_
  refine qt_iload_n 0 dX7_nth_7 rfl rfl ?_
  refine qt_icmp_ge 23 dX7_nth_8 (by decide) E (fun E => ?_) (fun E => ?_)
  · obtain ⟨z0_, E, G⟩ := qup_g E G
    exact qt_sub _ [1] rfl ((s_X7_nth_b23 x3 h E G))
  · refine qt_lload_n 1 dX7_nth_11 rfl rfl ?_
    refine qt_lload_n 1 dX7_nth_12 rfl rfl ?_
    refine qt_lconst dX7_nth_13 cl_1 ?_
    refine qt_lsub dX7_nth_14 ?_
    refine qt_land dX7_nth_15 ?_
    refine qt_lstore_n (fun v16 => [(3, .long v16), (2, .int x2), (5, .int x5)]) dX7_nth_16 rfl (Nat.le_of_ble_eq_true rfl) (fun _ => rfl) E (fun v16 E => ?_)
    refine qt_iinc 2 (fun v17 => [(5, .int v17), (3, .long v16), (2, .int x2)]) dX7_nth_17 rfl ci_1 (Nat.le_of_ble_eq_true rfl) (fun _ => rfl) E (fun v17 E => ?_)
    refine qt_goto 5 dX7_nth_20 (by decide) ?_
    cases E
    exact qt_sub _ [2, 1, 0] rfl (G)
noncomputable def f_X7_nth_b5_loop (x2 : Int32) (x3 : Int64) (x5 : Int32) (h : qa_M) : Option (Int32 × qa_M) := qlp (fun sz : Int32 × Int64 × Int32 × qa_M => f_X7_nth_b5 sz.1 sz.2.1 sz.2.2.1 sz.2.2.2) (x2, x3, x5, h)
theorem s_X7_nth_b5_loop {l : Launch} {g : qa_G} {d : Nat} {rz : Option Value} {hz : qa_M} (x2 : Int32) (x3 : Int64) (x5 : Int32) (h : qa_M) {z : (Int32 × qa_M)} (E : f_X7_nth_b5_loop x2 x3 x5 h = some z) (G : (qg_i rz hz) z) : qt_At l g (yX7_nth, cX7_nth, 6, (some .int)) (d + 2) 0 0 5 [(2, .int x2), (3, .long x3), (5, .int x5)] [] h rz hz :=
  qlp_ind (fun sz : Int32 × Int64 × Int32 × qa_M => qt_At l g (yX7_nth, cX7_nth, 6, (some .int)) (d + 2) 0 0 5 [(2, .int sz.1), (3, .long sz.2.1), (5, .int sz.2.2.1)] [] sz.2.2.2 rz hz) (fun sz E => s_X7_nth_b5 sz.1 sz.2.1 sz.2.2.1 sz.2.2.2 E G) (fun sz sz2 E ih => s_X7_nth_b5 sz.1 sz.2.1 sz.2.2.1 sz.2.2.2 E ih) (x2, x3, x5, h) E
noncomputable def m_X7_nth (x0 : Int64) (x2 : Int32) (h : qa_M) : Option (Int32 × qa_M) :=
  qbd x0 (fun v1 : Int64 =>
  qbd (0 : Int32) (fun v3 : Int32 =>
  f_X7_nth_b5_loop x2 v1 v3 h))
set_option maxRecDepth 20000 in
theorem c_X7_nth {l : Launch} {g : qa_G} {d : Nat} (x0 : Int64) (x2 : Int32) (h : qa_M) {c : Int32} {h1 : qa_M} (E : m_X7_nth x0 x2 h = some (c, h1)) : qt_Met l g (yX7_nth, cX7_nth, 6, (some .int)) (d + 2) 0 [.long x0, .int x2] h (some (.int c)) h1 := by
  refine qt_Met.of (plainFor_of_name (by decide)) (Nat.le_of_ble_eq_true rfl) ?_
  have G : qg_i (some (.int c)) h1 ((c, h1)) := ⟨rfl, rfl⟩
  unfold m_X7_nth at E
  refine qt_lload_n 0 dX7_nth_0 rfl rfl ?_
  refine qt_lstore_n (fun v1 => [(3, .long v1), (0, .long x0), (2, .int x2)]) dX7_nth_1 rfl (Nat.le_of_ble_eq_true rfl) (fun _ => rfl) E (fun v1 E => ?_)
  refine qt_iconst dX7_nth_2 ci_0 ?_
  refine qt_istore (fun v3 => [(5, .int v3), (3, .long v1), (0, .long x0), (2, .int x2)]) dX7_nth_3 (Nat.le_of_ble_eq_true rfl) (fun _ => rfl) E (fun v3 E => ?_)
  exact qt_sub _ [3, 1, 0] rfl ((s_X7_nth_b5_loop x2 v1 v3 h E G))
noncomputable def f_X7_squareOf_b52 (x3 : Int32) (x4 : Int32) (h : qa_M) : Option (Int32 × qa_M) :=
  if ((h.1 22 4) - (1 : Int32)) ≤ x3 then (
   qbn (m_X7_nth (h.2.1 22 15) x4 h) (fun (c77 : Int32) (h77 : qa_M) =>
   some (c77, h77)))
  else (
   qck x3 4 (
   some (h.1 31 x3.toNatClampNeg, h)))
set_option maxRecDepth 20000 in
theorem s_X7_squareOf_b52 {l : Launch} {g : qa_G} {d : Nat} {rz : Option Value} {hz : qa_M} (x3 : Int32) (x4 : Int32) (h : qa_M) {z : (Int32 × qa_M)} (E : f_X7_squareOf_b52 x3 x4 h = some z) (G : (qg_i rz hz) z) : qt_At l g (yX7_squareOf, cX7_squareOf, 7, (some .int)) (d + 4) 0 0 52 [(0, .ref (g.1 + 22)), (3, .int x3), (4, .int x4)] [] h rz hz := by
  unfold f_X7_squareOf_b52 at E
  refine qt_iload_n 1 dX7_squareOf_52 rfl rfl ?_
  refine qt_aload_n 0 dX7_squareOf_53 rfl rfl ?_
  refine qt_getI (wl_22 h) fe_RX7_62 rfl dX7_squareOf_54 ?_
  refine qt_iconst dX7_squareOf_57 ci_1 ?_
  refine qt_isub dX7_squareOf_58 ?_
  refine qt_icmp_ge 71 dX7_squareOf_59 (by decide) E (fun E => ?_) (fun E => ?_)
  · refine qt_aload_n 0 dX7_squareOf_71 rfl rfl ?_
    refine qt_getJ (wl_22 h) fe_RX7_147 rfl dX7_squareOf_72 ?_
    refine qt_iload 2 dX7_squareOf_75 rfl ?_
    obtain ⟨c77, h77, e77, E⟩ := qbn_el E
    refine qt_callSi (b2 := 0) [.long (h.2.1 22 15), .int x4] (c_X7_nth (h.2.1 22 15) x4 h e77) cv_RX7_179 rfl (Nat.le_of_ble_eq_true rfl) (Nat.le_of_ble_eq_true rfl) dX7_squareOf_77 ?_
    exact qt_ireturn rfl (Nat.le_of_ble_eq_true rfl) dX7_squareOf_80 E G
  · refine qt_aload_n 0 dX7_squareOf_62 rfl rfl ?_
    refine qt_getS 31 (wl_22 h) fe_RX7_37 rfl dX7_squareOf_63 ?_
    refine qt_iload_n 1 dX7_squareOf_66 rfl rfl ?_
    refine qt_iald (wl_31 h) dX7_squareOf_67 E (fun E => ?_)
    refine qt_goto 80 dX7_squareOf_68 (by decide) ?_
    exact qt_ireturn rfl (Nat.le_of_ble_eq_true rfl) dX7_squareOf_80 E G
noncomputable def f_X7_squareOf_b22 (x3 : Int32) (x4 : Int32) (x5 : Int32) (h : qa_M) : Option ((Int32 × Int32 × Int32 × qa_M) ⊕ (Int32 × qa_M)) :=
  if (2000000 : Int32) ≤ x5 then (
   qup (some ((-2 : Int32), h)))
  else (
   qbn (m_X7_step h) (fun (c30 : Int32) (h30 : qa_M) =>
   if c30 = 0 then (
    qup (some ((-2 : Int32), h30)))
   else (
    qbn (m_J13_bitCount_95d88 (h30.2.1 22 15) h30) (fun (c40 : Int32) (h40 : qa_M) =>
    qbd c40 (fun v43 : Int32 =>
    if v43 ≤ x4 then (
     qbd (x4 - v43) (fun v86 : Int32 =>
     qbd (x5 + (1 : Int32)) (fun v88 : Int32 =>
     some (.inl (x3, v86, v88, h40)))))
    else (
     qup (f_X7_squareOf_b52 x3 x4 h40)))))))
set_option maxRecDepth 20000 in
theorem s_X7_squareOf_b22 {l : Launch} {g : qa_G} {d : Nat} {rz : Option Value} {hz : qa_M} (x3 : Int32) (x4 : Int32) (x5 : Int32) (h : qa_M) {z : ((Int32 × Int32 × Int32 × qa_M) ⊕ (Int32 × qa_M))} (E : f_X7_squareOf_b22 x3 x4 x5 h = some z) (G : (Sum.elim (fun (sz : Int32 × Int32 × Int32 × qa_M) => qt_At l g (yX7_squareOf, cX7_squareOf, 7, (some .int)) (d + 4) 0 0 22 [(0, .ref (g.1 + 22)), (3, .int sz.1), (4, .int sz.2.1), (5, .int sz.2.2.1)] [] sz.2.2.2 rz hz) (qg_i rz hz)) z) : qt_At l g (yX7_squareOf, cX7_squareOf, 7, (some .int)) (d + 4) 0 0 22 [(0, .ref (g.1 + 22)), (3, .int x3), (4, .int x4), (5, .int x5)] [] h rz hz := by
  unfold f_X7_squareOf_b22 at E
  refine qt_iload 3 dX7_squareOf_22 rfl ?_
  refine qt_ldc tb_1025 dX7_squareOf_24 ?_
  refine qt_icmp_ge 94 dX7_squareOf_26 (by decide) E (fun E => ?_) (fun E => ?_)
  · refine qt_bipush dX7_squareOf_94 cb_m2 ?_
    obtain ⟨z0_, E, G⟩ := qup_g E G
    exact qt_ireturn rfl (Nat.le_of_ble_eq_true rfl) dX7_squareOf_96 E G
  · refine qt_aload_n 0 dX7_squareOf_29 rfl rfl ?_
    obtain ⟨c30, h30, e30, E⟩ := qbn_el E
    refine qt_callVi (b2 := 0) [] (c_X7_step h e30) cv_RX7_171 (wl_22 h) rfl rfl rfl (Nat.le_of_ble_eq_true rfl) (Nat.le_of_ble_eq_true rfl) dX7_squareOf_30 ?_
    refine qt_if_eq 94 dX7_squareOf_33 (by decide) E (fun E => ?_) (fun E => ?_)
    · refine qt_bipush dX7_squareOf_94 cb_m2 ?_
      obtain ⟨z0_, E, G⟩ := qup_g E G
      exact qt_ireturn rfl (Nat.le_of_ble_eq_true rfl) dX7_squareOf_96 E G
    · refine qt_aload_n 0 dX7_squareOf_36 rfl rfl ?_
      refine qt_getJ (wl_22 h30) fe_RX7_147 rfl dX7_squareOf_37 ?_
      obtain ⟨c40, h40, e40, E⟩ := qbn_el E
      refine qt_callSi (b2 := 0) [.long (h30.2.1 22 15)] (c_J13_bitCount_95d88 (h30.2.1 22 15) h30 e40) cv_RX7_162 rfl (Nat.le_of_ble_eq_true rfl) (Nat.le_of_ble_eq_true rfl) dX7_squareOf_40 ?_
      refine qt_istore (fun v43 => [(6, .int v43), (0, .ref (g.1 + 22)), (3, .int x3), (4, .int x4), (5, .int x5)]) dX7_squareOf_43 (Nat.le_of_ble_eq_true rfl) (fun _ => rfl) E (fun v43 E => ?_)
      refine qt_iload 3 dX7_squareOf_45 rfl ?_
      refine qt_iload 0 dX7_squareOf_47 rfl ?_
      refine qt_icmp_ge 81 dX7_squareOf_49 (by decide) E (fun E => ?_) (fun E => ?_)
      · refine qt_iload 3 dX7_squareOf_81 rfl ?_
        refine qt_iload 0 dX7_squareOf_83 rfl ?_
        refine qt_isub dX7_squareOf_85 ?_
        refine qt_istore (fun v86 => [(4, .int v86), (6, .int v43), (0, .ref (g.1 + 22)), (3, .int x3), (5, .int x5)]) dX7_squareOf_86 (Nat.le_of_ble_eq_true rfl) (fun _ => rfl) E (fun v86 E => ?_)
        refine qt_iinc 4 (fun v88 => [(5, .int v88), (4, .int v86), (6, .int v43), (0, .ref (g.1 + 22)), (3, .int x3)]) dX7_squareOf_88 rfl ci_1 (Nat.le_of_ble_eq_true rfl) (fun _ => rfl) E (fun v88 E => ?_)
        refine qt_goto 22 dX7_squareOf_91 (by decide) ?_
        cases E
        exact qt_sub _ [3, 4, 1, 0] rfl (G)
      · obtain ⟨z0_, E, G⟩ := qup_g E G
        exact qt_sub _ [1, 2, 3] rfl ((s_X7_squareOf_b52 x3 x4 h40 E G))
noncomputable def f_X7_squareOf_b22_loop (x3 : Int32) (x4 : Int32) (x5 : Int32) (h : qa_M) : Option (Int32 × qa_M) := qlp (fun sz : Int32 × Int32 × Int32 × qa_M => f_X7_squareOf_b22 sz.1 sz.2.1 sz.2.2.1 sz.2.2.2) (x3, x4, x5, h)
theorem s_X7_squareOf_b22_loop {l : Launch} {g : qa_G} {d : Nat} {rz : Option Value} {hz : qa_M} (x3 : Int32) (x4 : Int32) (x5 : Int32) (h : qa_M) {z : (Int32 × qa_M)} (E : f_X7_squareOf_b22_loop x3 x4 x5 h = some z) (G : (qg_i rz hz) z) : qt_At l g (yX7_squareOf, cX7_squareOf, 7, (some .int)) (d + 4) 0 0 22 [(0, .ref (g.1 + 22)), (3, .int x3), (4, .int x4), (5, .int x5)] [] h rz hz :=
  qlp_ind (fun sz : Int32 × Int32 × Int32 × qa_M => qt_At l g (yX7_squareOf, cX7_squareOf, 7, (some .int)) (d + 4) 0 0 22 [(0, .ref (g.1 + 22)), (3, .int sz.1), (4, .int sz.2.1), (5, .int sz.2.2.1)] [] sz.2.2.2 rz hz) (fun sz E => s_X7_squareOf_b22 sz.1 sz.2.1 sz.2.2.1 sz.2.2.2 E G) (fun sz sz2 E ih => s_X7_squareOf_b22 sz.1 sz.2.1 sz.2.2.1 sz.2.2.2 E ih) (x3, x4, x5, h) E
noncomputable def m_X7_squareOf (x1 : Int32) (x2 : Int32) (x3 : Int32) (h : qa_M) : Option (Int32 × qa_M) :=
  if x3 < (h.1 22 4) then (
   qbd x2 (fun v12 : Int32 =>
   qbv (m_X7_start x1 h) (fun h16 : qa_M =>
   qbd (0 : Int32) (fun v20 : Int32 =>
   f_X7_squareOf_b22_loop x3 v12 v20 h16))))
  else (
   some ((-2 : Int32), h))
set_option maxRecDepth 20000 in
theorem c_X7_squareOf {l : Launch} {g : qa_G} {d : Nat} (x1 : Int32) (x2 : Int32) (x3 : Int32) (h : qa_M) {c : Int32} {h1 : qa_M} (E : m_X7_squareOf x1 x2 x3 h = some (c, h1)) : qt_Met l g (yX7_squareOf, cX7_squareOf, 7, (some .int)) (d + 4) 0 [.ref (g.1 + 22), .int x1, .int x2, .int x3] h (some (.int c)) h1 := by
  refine qt_Met.of (plainFor_of_name (by decide)) (Nat.le_of_ble_eq_true rfl) ?_
  have G : qg_i (some (.int c)) h1 ((c, h1)) := ⟨rfl, rfl⟩
  unfold m_X7_squareOf at E
  refine qt_iload_n 3 dX7_squareOf_0 rfl rfl ?_
  refine qt_aload_n 0 dX7_squareOf_1 rfl rfl ?_
  refine qt_getI (wl_22 h) fe_RX7_62 rfl dX7_squareOf_2 ?_
  refine qt_icmp_lt 11 dX7_squareOf_5 (by decide) E (fun E => ?_) (fun E => ?_)
  · refine qt_iload_n 2 dX7_squareOf_11 rfl rfl ?_
    refine qt_istore (fun v12 => [(4, .int v12), (0, .ref (g.1 + 22)), (1, .int x1), (2, .int x2), (3, .int x3)]) dX7_squareOf_12 (Nat.le_of_ble_eq_true rfl) (fun _ => rfl) E (fun v12 E => ?_)
    refine qt_aload_n 1 dX7_squareOf_14 rfl rfl ?_
    refine qt_iload_n 2 dX7_squareOf_15 rfl rfl ?_
    obtain ⟨h16, e16, E⟩ := qbv_el E
    refine qt_callVv (b2 := 0) [.int x1] (c_X7_start x1 h e16) cv_RX7_167 (wl_22 h) rfl rfl rfl (Nat.le_of_ble_eq_true rfl) (Nat.le_of_ble_eq_true rfl) dX7_squareOf_16 ?_
    refine qt_iconst dX7_squareOf_19 ci_0 ?_
    refine qt_istore (fun v20 => [(5, .int v20), (4, .int v12), (0, .ref (g.1 + 22)), (1, .int x1), (2, .int x2), (3, .int x3)]) dX7_squareOf_20 (Nat.le_of_ble_eq_true rfl) (fun _ => rfl) E (fun v20 E => ?_)
    exact qt_sub _ [2, 5, 1, 0] rfl ((s_X7_squareOf_b22_loop x3 v12 v20 h16 E G))
  · refine qt_bipush dX7_squareOf_8 cb_m2 ?_
    exact qt_ireturn rfl (Nat.le_of_ble_eq_true rfl) dX7_squareOf_10 E G
noncomputable def m_X11_laying (x1 : Int32) (x2 : Int32) (x3 : Int32) (h : qa_M) : Option (Int32 × qa_M) :=
  qbn (m_X11_known x1 h) (fun (c2 : Int32) (h2 : qa_M) =>
  if c2 = 0 then (
   some ((-1 : Int32), h2))
  else (
   if x2 < 0 then (
    some ((-1 : Int32), h2))
   else (
    qbn (m_X11_within x3 (4 : Int32) h2) (fun (c14 : Int32) (h14 : qa_M) =>
    if c14 = 0 then (
     some ((-1 : Int32), h14))
    else (
     qbv (m_X11_prepare h14) (fun h23 : qa_M =>
     qbn (m_X7_squareOf x1 x2 x3 h23) (fun (c33 : Int32) (h33 : qa_M) =>
     some (c33, h33))))))))
set_option maxRecDepth 20000 in
theorem c_X11_laying {l : Launch} {g : qa_G} {d : Nat} (x1 : Int32) (x2 : Int32) (x3 : Int32) (h : qa_M) {c : Int32} {h1 : qa_M} (E : m_X11_laying x1 x2 x3 h = some (c, h1)) : qt_Met l g (yX11_laying, cX11_laying, 4, (some .int)) (d + 6) 0 [.ref (g.1 + 0), .int x1, .int x2, .int x3] h (some (.int c)) h1 := by
  refine qt_Met.of (plainFor_of_name (by decide)) (Nat.le_of_ble_eq_true rfl) ?_
  have G : qg_i (some (.int c)) h1 ((c, h1)) := ⟨rfl, rfl⟩
  unfold m_X11_laying at E
  refine qt_aload_n 0 dX11_laying_0 rfl rfl ?_
  refine qt_iload_n 1 dX11_laying_1 rfl rfl ?_
  obtain ⟨c2, h2, e2, E⟩ := qbn_el E
  refine qt_callVi (b2 := 0) [.int x1] (c_X11_known x1 h e2) cv_RX11_187 (wl_0 h) rfl rfl rfl (Nat.le_of_ble_eq_true rfl) (Nat.le_of_ble_eq_true rfl) dX11_laying_2 ?_
  refine qt_if_eq 20 dX11_laying_5 (by decide) E (fun E => ?_) (fun E => ?_)
  · refine qt_iconst dX11_laying_20 ci_m1 ?_
    exact qt_ireturn rfl (Nat.le_of_ble_eq_true rfl) dX11_laying_21 E G
  · refine qt_iload_n 2 dX11_laying_8 rfl rfl ?_
    refine qt_if_lt 20 dX11_laying_9 (by decide) E (fun E => ?_) (fun E => ?_)
    · refine qt_iconst dX11_laying_20 ci_m1 ?_
      exact qt_ireturn rfl (Nat.le_of_ble_eq_true rfl) dX11_laying_21 E G
    · refine qt_iload_n 3 dX11_laying_12 rfl rfl ?_
      refine qt_iconst dX11_laying_13 ci_4 ?_
      obtain ⟨c14, h14, e14, E⟩ := qbn_el E
      refine qt_callSi (b2 := 0) [.int x3, .int (4 : Int32)] (c_X11_within x3 (4 : Int32) h2 e14) cv_RX11_130 rfl (Nat.le_of_ble_eq_true rfl) (Nat.le_of_ble_eq_true rfl) dX11_laying_14 ?_
      refine qt_if_ne 22 dX11_laying_17 (by decide) E (fun E => ?_) (fun E => ?_)
      · refine qt_aload_n 0 dX11_laying_22 rfl rfl ?_
        obtain ⟨h23, e23, E⟩ := qbv_el E
        refine qt_callVv (b2 := 0) [] (c_X11_prepare h14 e23) cv_RX11_164 (wl_0 h14) rfl rfl rfl (Nat.le_of_ble_eq_true rfl) (Nat.le_of_ble_eq_true rfl) dX11_laying_23 ?_
        refine qt_aload_n 0 dX11_laying_26 rfl rfl ?_
        refine qt_getS 22 (wl_0 h23) fe_RX11_67 rfl dX11_laying_27 ?_
        refine qt_iload_n 1 dX11_laying_30 rfl rfl ?_
        refine qt_iload_n 2 dX11_laying_31 rfl rfl ?_
        refine qt_iload_n 3 dX11_laying_32 rfl rfl ?_
        obtain ⟨c33, h33, e33, E⟩ := qbn_el E
        refine qt_callVi (b2 := 0) [.int x1, .int x2, .int x3] (c_X7_squareOf x1 x2 x3 h23 e33) cv_RX11_211 (wl_22 h23) rfl rfl rfl (Nat.le_of_ble_eq_true rfl) (Nat.le_of_ble_eq_true rfl) dX11_laying_33 ?_
        exact qt_ireturn rfl (Nat.le_of_ble_eq_true rfl) dX11_laying_36 E G
      · refine qt_iconst dX11_laying_20 ci_m1 ?_
        exact qt_ireturn rfl (Nat.le_of_ble_eq_true rfl) dX11_laying_21 E G
noncomputable def m_X11_rows (x1 : Int32) (x2 : Int32) (x3 : Int32) (x4 : Int32) (h : qa_M) : Option (Int32 × qa_M) :=
  qbn (m_X11_known x1 h) (fun (c2 : Int32) (h2 : qa_M) =>
  if c2 = 0 then (
   some ((-1 : Int32), h2))
  else (
   qbn (m_X11_within x2 (h2.1 4 4) h2) (fun (c19 : Int32) (h19 : qa_M) =>
   if c19 = 0 then (
    some ((-1 : Int32), h19))
   else (
    qbn (m_X11_within x3 (h19.1 4 1) h19) (fun (c36 : Int32) (h36 : qa_M) =>
    if c36 = 0 then (
     some ((-1 : Int32), h36))
    else (
     qbn (m_X11_within x4 (5 : Int32) h36) (fun (c47 : Int32) (h47 : qa_M) =>
     if c47 = 0 then (
      some ((-1 : Int32), h47))
     else (
      qbv (m_X11_prepare h47) (fun h56 : qa_M =>
      qbn (m_X2_box (0 : Int32) x3 ((h56.1 4 0) - (1 : Int32)) x3 h56) (fun (c80 : Int64) (h80 : qa_M) =>
      qbv (m_X7_tally x1 x2 c80 h80) (fun h83 : qa_M =>
      qck x4 5 (
      some (h83.1 33 x4.toNatClampNeg, h83)))))))))))))
set_option maxRecDepth 20000 in
theorem c_X11_rows {l : Launch} {g : qa_G} {d : Nat} (x1 : Int32) (x2 : Int32) (x3 : Int32) (x4 : Int32) (h : qa_M) {c : Int32} {h1 : qa_M} (E : m_X11_rows x1 x2 x3 x4 h = some (c, h1)) : qt_Met l g (yX11_rows, cX11_rows, 5, (some .int)) (d + 6) 0 [.ref (g.1 + 0), .int x1, .int x2, .int x3, .int x4] h (some (.int c)) h1 := by
  refine qt_Met.of (plainFor_of_name (by decide)) (Nat.le_of_ble_eq_true rfl) ?_
  have G : qg_i (some (.int c)) h1 ((c, h1)) := ⟨rfl, rfl⟩
  unfold m_X11_rows at E
  refine qt_aload_n 0 dX11_rows_0 rfl rfl ?_
  refine qt_iload_n 1 dX11_rows_1 rfl rfl ?_
  obtain ⟨c2, h2, e2, E⟩ := qbn_el E
  refine qt_callVi (b2 := 0) [.int x1] (c_X11_known x1 h e2) cv_RX11_187 (wl_0 h) rfl rfl rfl (Nat.le_of_ble_eq_true rfl) (Nat.le_of_ble_eq_true rfl) dX11_rows_2 ?_
  refine qt_if_eq 42 dX11_rows_5 (by decide) E (fun E => ?_) (fun E => ?_)
  · refine qt_iconst dX11_rows_42 ci_m1 ?_
    exact qt_ireturn rfl (Nat.le_of_ble_eq_true rfl) dX11_rows_43 E G
  · refine qt_iload_n 2 dX11_rows_8 rfl rfl ?_
    refine qt_aload_n 0 dX11_rows_9 rfl rfl ?_
    refine qt_getS 3 (wl_0 h2) fe_RX11_19 rfl dX11_rows_10 ?_
    refine qt_getS 4 (wl_3 h2) fe_RX11_108 rfl dX11_rows_13 ?_
    refine qt_getI (wl_4 h2) fe_RX11_137 rfl dX11_rows_16 ?_
    obtain ⟨c19, h19, e19, E⟩ := qbn_el E
    refine qt_callSi (b2 := 0) [.int x2, .int (h2.1 4 4)] (c_X11_within x2 (h2.1 4 4) h2 e19) cv_RX11_130 rfl (Nat.le_of_ble_eq_true rfl) (Nat.le_of_ble_eq_true rfl) dX11_rows_19 ?_
    refine qt_if_eq 42 dX11_rows_22 (by decide) E (fun E => ?_) (fun E => ?_)
    · refine qt_iconst dX11_rows_42 ci_m1 ?_
      exact qt_ireturn rfl (Nat.le_of_ble_eq_true rfl) dX11_rows_43 E G
    · refine qt_iload_n 3 dX11_rows_25 rfl rfl ?_
      refine qt_aload_n 0 dX11_rows_26 rfl rfl ?_
      refine qt_getS 3 (wl_0 h19) fe_RX11_19 rfl dX11_rows_27 ?_
      refine qt_getS 4 (wl_3 h19) fe_RX11_108 rfl dX11_rows_30 ?_
      refine qt_getI (wl_4 h19) fe_RX11_215 rfl dX11_rows_33 ?_
      obtain ⟨c36, h36, e36, E⟩ := qbn_el E
      refine qt_callSi (b2 := 0) [.int x3, .int (h19.1 4 1)] (c_X11_within x3 (h19.1 4 1) h19 e36) cv_RX11_130 rfl (Nat.le_of_ble_eq_true rfl) (Nat.le_of_ble_eq_true rfl) dX11_rows_36 ?_
      refine qt_if_ne 44 dX11_rows_39 (by decide) E (fun E => ?_) (fun E => ?_)
      · refine qt_iload 4 dX11_rows_44 rfl ?_
        refine qt_iconst dX11_rows_46 ci_5 ?_
        obtain ⟨c47, h47, e47, E⟩ := qbn_el E
        refine qt_callSi (b2 := 0) [.int x4, .int (5 : Int32)] (c_X11_within x4 (5 : Int32) h36 e47) cv_RX11_130 rfl (Nat.le_of_ble_eq_true rfl) (Nat.le_of_ble_eq_true rfl) dX11_rows_47 ?_
        refine qt_if_ne 55 dX11_rows_50 (by decide) E (fun E => ?_) (fun E => ?_)
        · refine qt_aload_n 0 dX11_rows_55 rfl rfl ?_
          obtain ⟨h56, e56, E⟩ := qbv_el E
          refine qt_callVv (b2 := 0) [] (c_X11_prepare h47 e56) cv_RX11_164 (wl_0 h47) rfl rfl rfl (Nat.le_of_ble_eq_true rfl) (Nat.le_of_ble_eq_true rfl) dX11_rows_56 ?_
          refine qt_aload_n 0 dX11_rows_59 rfl rfl ?_
          refine qt_getS 22 (wl_0 h56) fe_RX11_67 rfl dX11_rows_60 ?_
          refine qt_iload_n 1 dX11_rows_63 rfl rfl ?_
          refine qt_iload_n 2 dX11_rows_64 rfl rfl ?_
          refine qt_iconst dX11_rows_65 ci_0 ?_
          refine qt_iload_n 3 dX11_rows_66 rfl rfl ?_
          refine qt_aload_n 0 dX11_rows_67 rfl rfl ?_
          refine qt_getS 3 (wl_0 h56) fe_RX11_19 rfl dX11_rows_68 ?_
          refine qt_getS 4 (wl_3 h56) fe_RX11_108 rfl dX11_rows_71 ?_
          refine qt_getI (wl_4 h56) fe_RX11_218 rfl dX11_rows_74 ?_
          refine qt_iconst dX11_rows_77 ci_1 ?_
          refine qt_isub dX11_rows_78 ?_
          refine qt_iload_n 3 dX11_rows_79 rfl rfl ?_
          obtain ⟨c80, h80, e80, E⟩ := qbn_el E
          refine qt_callSl (b2 := 0) [.int (0 : Int32), .int x3, .int ((h56.1 4 0) - (1 : Int32)), .int x3] (c_X2_box (0 : Int32) x3 ((h56.1 4 0) - (1 : Int32)) x3 h56 e80) cv_RX11_221 rfl (Nat.le_of_ble_eq_true rfl) (Nat.le_of_ble_eq_true rfl) dX11_rows_80 ?_
          obtain ⟨h83, e83, E⟩ := qbv_el E
          refine qt_callVv (b2 := 0) [.int x1, .int x2, .long c80] (c_X7_tally x1 x2 c80 h80 e83) cv_RX11_200 (wl_22 h80) rfl rfl rfl (Nat.le_of_ble_eq_true rfl) (Nat.le_of_ble_eq_true rfl) dX11_rows_83 ?_
          refine qt_aload_n 0 dX11_rows_86 rfl rfl ?_
          refine qt_getS 22 (wl_0 h83) fe_RX11_67 rfl dX11_rows_87 ?_
          refine qt_getS 33 (wl_22 h83) fe_RX11_204 rfl dX11_rows_90 ?_
          refine qt_iload 4 dX11_rows_93 rfl ?_
          refine qt_iald (wl_33 h83) dX11_rows_95 E (fun E => ?_)
          exact qt_ireturn rfl (Nat.le_of_ble_eq_true rfl) dX11_rows_96 E G
        · refine qt_iconst dX11_rows_53 ci_m1 ?_
          exact qt_ireturn rfl (Nat.le_of_ble_eq_true rfl) dX11_rows_54 E G
      · refine qt_iconst dX11_rows_42 ci_m1 ?_
        exact qt_ireturn rfl (Nat.le_of_ble_eq_true rfl) dX11_rows_43 E G
noncomputable def m_X11_news (x1 : Int32) (x2 : Int32) (h : qa_M) : Option (Int32 × qa_M) :=
  qbn (m_X11_known x1 h) (fun (c2 : Int32) (h2 : qa_M) =>
  if c2 = 0 then (
   some ((-1 : Int32), h2))
  else (
   qbn (m_X11_within x2 (h2.1 3 1) h2) (fun (c16 : Int32) (h16 : qa_M) =>
   if c16 = 0 then (
    some ((-1 : Int32), h16))
   else (
    if ((x1 >>> (x2 &&& 31)) &&& (1 : Int32)) = 0 then (
     some ((-1 : Int32), h16))
    else (
     qbn (m_X11_howMany (x1 ^^^ ((1 : Int32) <<< (x2 &&& 31))) h16) (fun (c38 : Int32) (h38 : qa_M) =>
     qbn (m_X11_howMany x1 h38) (fun (c43 : Int32) (h43 : qa_M) =>
     if c38 ≤ c43 then (
      some ((0 : Int32), h43))
     else (
      some ((1 : Int32), h43)))))))))
set_option maxRecDepth 20000 in
theorem c_X11_news {l : Launch} {g : qa_G} {d : Nat} (x1 : Int32) (x2 : Int32) (h : qa_M) {c : Int32} {h1 : qa_M} (E : m_X11_news x1 x2 h = some (c, h1)) : qt_Met l g (yX11_news, cX11_news, 3, (some .int)) (d + 7) 0 [.ref (g.1 + 0), .int x1, .int x2] h (some (.int c)) h1 := by
  refine qt_Met.of (plainFor_of_name (by decide)) (Nat.le_of_ble_eq_true rfl) ?_
  have G : qg_i (some (.int c)) h1 ((c, h1)) := ⟨rfl, rfl⟩
  unfold m_X11_news at E
  refine qt_aload_n 0 dX11_news_0 rfl rfl ?_
  refine qt_iload_n 1 dX11_news_1 rfl rfl ?_
  obtain ⟨c2, h2, e2, E⟩ := qbn_el E
  refine qt_callVi (b2 := 0) [.int x1] (c_X11_known x1 h e2) cv_RX11_187 (wl_0 h) rfl rfl rfl (Nat.le_of_ble_eq_true rfl) (Nat.le_of_ble_eq_true rfl) dX11_news_2 ?_
  refine qt_if_eq 30 dX11_news_5 (by decide) E (fun E => ?_) (fun E => ?_)
  · refine qt_iconst dX11_news_30 ci_m1 ?_
    exact qt_ireturn rfl (Nat.le_of_ble_eq_true rfl) dX11_news_31 E G
  · refine qt_iload_n 2 dX11_news_8 rfl rfl ?_
    refine qt_aload_n 0 dX11_news_9 rfl rfl ?_
    refine qt_getS 3 (wl_0 h2) fe_RX11_19 rfl dX11_news_10 ?_
    refine qt_getI (wl_3 h2) fe_RX11_115 rfl dX11_news_13 ?_
    obtain ⟨c16, h16, e16, E⟩ := qbn_el E
    refine qt_callSi (b2 := 0) [.int x2, .int (h2.1 3 1)] (c_X11_within x2 (h2.1 3 1) h2 e16) cv_RX11_130 rfl (Nat.le_of_ble_eq_true rfl) (Nat.le_of_ble_eq_true rfl) dX11_news_16 ?_
    refine qt_if_eq 30 dX11_news_19 (by decide) E (fun E => ?_) (fun E => ?_)
    · refine qt_iconst dX11_news_30 ci_m1 ?_
      exact qt_ireturn rfl (Nat.le_of_ble_eq_true rfl) dX11_news_31 E G
    · refine qt_iload_n 1 dX11_news_22 rfl rfl ?_
      refine qt_iload_n 2 dX11_news_23 rfl rfl ?_
      refine qt_ishr dX11_news_24 ?_
      refine qt_iconst dX11_news_25 ci_1 ?_
      refine qt_iand dX11_news_26 ?_
      refine qt_if_ne 32 dX11_news_27 (by decide) E (fun E => ?_) (fun E => ?_)
      · refine qt_aload_n 0 dX11_news_32 rfl rfl ?_
        refine qt_iload_n 1 dX11_news_33 rfl rfl ?_
        refine qt_iconst dX11_news_34 ci_1 ?_
        refine qt_iload_n 2 dX11_news_35 rfl rfl ?_
        refine qt_ishl dX11_news_36 ?_
        refine qt_ixor dX11_news_37 ?_
        obtain ⟨c38, h38, e38, E⟩ := qbn_el E
        refine qt_callVi (b2 := 0) [.int (x1 ^^^ ((1 : Int32) <<< (x2 &&& 31)))] (c_X11_howMany (x1 ^^^ ((1 : Int32) <<< (x2 &&& 31))) h16 e38) cv_RX11_191 (wl_0 h16) rfl rfl rfl (Nat.le_of_ble_eq_true rfl) (Nat.le_of_ble_eq_true rfl) dX11_news_38 ?_
        refine qt_aload_n 0 dX11_news_41 rfl rfl ?_
        refine qt_iload_n 1 dX11_news_42 rfl rfl ?_
        obtain ⟨c43, h43, e43, E⟩ := qbn_el E
        refine qt_callVi (b2 := 0) [.int x1] (c_X11_howMany x1 h38 e43) cv_RX11_191 (wl_0 h38) rfl rfl rfl (Nat.le_of_ble_eq_true rfl) (Nat.le_of_ble_eq_true rfl) dX11_news_43 ?_
        refine qt_icmp_le 53 dX11_news_46 (by decide) E (fun E => ?_) (fun E => ?_)
        · refine qt_iconst dX11_news_53 ci_0 ?_
          exact qt_ireturn rfl (Nat.le_of_ble_eq_true rfl) dX11_news_54 E G
        · refine qt_iconst dX11_news_49 ci_1 ?_
          refine qt_goto 54 dX11_news_50 (by decide) ?_
          exact qt_ireturn rfl (Nat.le_of_ble_eq_true rfl) dX11_news_54 E G
      · refine qt_iconst dX11_news_30 ci_m1 ?_
        exact qt_ireturn rfl (Nat.le_of_ble_eq_true rfl) dX11_news_31 E G
noncomputable def m_X7_any (x1 : Int32) (h : qa_M) : Option (Int32 × qa_M) :=
  qbv (m_X7_start x1 h) (fun h2 : qa_M =>
  qbn (m_X7_step h2) (fun (c6 : Int32) (h6 : qa_M) =>
  qpr (c6 = 0 ∨ c6 = 1) (
  some (c6, h6))))
set_option maxRecDepth 20000 in
theorem c_X7_any {l : Launch} {g : qa_G} {d : Nat} (x1 : Int32) (h : qa_M) {c : Int32} {h1 : qa_M} (E : m_X7_any x1 h = some (c, h1)) : qt_Met l g (yX7_any, cX7_any, 2, (some .boolean)) (d + 4) 0 [.ref (g.1 + 22), .int x1] h (some (.int c)) h1 := by
  refine qt_Met.of (plainFor_of_name (by decide)) (Nat.le_of_ble_eq_true rfl) ?_
  have G : qg_i (some (.int c)) h1 ((c, h1)) := ⟨rfl, rfl⟩
  unfold m_X7_any at E
  refine qt_aload_n 0 dX7_any_0 rfl rfl ?_
  refine qt_iload_n 1 dX7_any_1 rfl rfl ?_
  obtain ⟨h2, e2, E⟩ := qbv_el E
  refine qt_callVv (b2 := 0) [.int x1] (c_X7_start x1 h e2) cv_RX7_167 (wl_22 h) rfl rfl rfl (Nat.le_of_ble_eq_true rfl) (Nat.le_of_ble_eq_true rfl) dX7_any_2 ?_
  refine qt_aload_n 0 dX7_any_5 rfl rfl ?_
  obtain ⟨c6, h6, e6, E⟩ := qbn_el E
  refine qt_callVi (b2 := 0) [] (c_X7_step h2 e6) cv_RX7_171 (wl_22 h2) rfl rfl rfl (Nat.le_of_ble_eq_true rfl) (Nat.le_of_ble_eq_true rfl) dX7_any_6 ?_
  obtain ⟨z9, E⟩ := qpr_el E
  exact qt_zreturn rfl z9 (Nat.le_of_ble_eq_true rfl) dX7_any_9 E G
noncomputable def m_X11_quarrel (x1 : Int32) (x2 : Int32) (h : qa_M) : Option (Int32 × qa_M) :=
  qbn (m_X11_within x1 (h.1 3 1) h) (fun (c8 : Int32) (h8 : qa_M) =>
  if c8 = 0 then (
   some ((-1 : Int32), h8))
  else (
   qbn (m_X11_within x2 (h8.1 3 1) h8) (fun (c22 : Int32) (h22 : qa_M) =>
   if c22 = 0 then (
    some ((-1 : Int32), h22))
   else (
    if x1 = x2 then (
     some ((-1 : Int32), h22))
    else (
     qbv (m_X11_prepare h22) (fun h36 : qa_M =>
     qbd ((1 : Int32) <<< (x1 &&& 31)) (fun v42 : Int32 =>
     qbd ((1 : Int32) <<< (x2 &&& 31)) (fun v46 : Int32 =>
     qbn (m_X7_any v42 h36) (fun (c53 : Int32) (h53 : qa_M) =>
     if c53 = 0 then (
      some ((0 : Int32), h53))
     else (
      qbn (m_X7_any v46 h53) (fun (c65 : Int32) (h65 : qa_M) =>
      if c65 = 0 then (
       some ((0 : Int32), h65))
      else (
       qbn (m_X7_any (v42 ||| v46) h65) (fun (c79 : Int32) (h79 : qa_M) =>
       if c79 = 0 then (
        some ((1 : Int32), h79))
       else (
        some ((0 : Int32), h79)))))))))))))))
set_option maxRecDepth 20000 in
theorem c_X11_quarrel {l : Launch} {g : qa_G} {d : Nat} (x1 : Int32) (x2 : Int32) (h : qa_M) {c : Int32} {h1 : qa_M} (E : m_X11_quarrel x1 x2 h = some (c, h1)) : qt_Met l g (yX11_quarrel, cX11_quarrel, 5, (some .int)) (d + 6) 0 [.ref (g.1 + 0), .int x1, .int x2] h (some (.int c)) h1 := by
  refine qt_Met.of (plainFor_of_name (by decide)) (Nat.le_of_ble_eq_true rfl) ?_
  have G : qg_i (some (.int c)) h1 ((c, h1)) := ⟨rfl, rfl⟩
  unfold m_X11_quarrel at E
  refine qt_iload_n 1 dX11_quarrel_0 rfl rfl ?_
  refine qt_aload_n 0 dX11_quarrel_1 rfl rfl ?_
  refine qt_getS 3 (wl_0 h) fe_RX11_19 rfl dX11_quarrel_2 ?_
  refine qt_getI (wl_3 h) fe_RX11_115 rfl dX11_quarrel_5 ?_
  obtain ⟨c8, h8, e8, E⟩ := qbn_el E
  refine qt_callSi (b2 := 0) [.int x1, .int (h.1 3 1)] (c_X11_within x1 (h.1 3 1) h e8) cv_RX11_130 rfl (Nat.le_of_ble_eq_true rfl) (Nat.le_of_ble_eq_true rfl) dX11_quarrel_8 ?_
  refine qt_if_eq 33 dX11_quarrel_11 (by decide) E (fun E => ?_) (fun E => ?_)
  · refine qt_iconst dX11_quarrel_33 ci_m1 ?_
    exact qt_ireturn rfl (Nat.le_of_ble_eq_true rfl) dX11_quarrel_34 E G
  · refine qt_iload_n 2 dX11_quarrel_14 rfl rfl ?_
    refine qt_aload_n 0 dX11_quarrel_15 rfl rfl ?_
    refine qt_getS 3 (wl_0 h8) fe_RX11_19 rfl dX11_quarrel_16 ?_
    refine qt_getI (wl_3 h8) fe_RX11_115 rfl dX11_quarrel_19 ?_
    obtain ⟨c22, h22, e22, E⟩ := qbn_el E
    refine qt_callSi (b2 := 0) [.int x2, .int (h8.1 3 1)] (c_X11_within x2 (h8.1 3 1) h8 e22) cv_RX11_130 rfl (Nat.le_of_ble_eq_true rfl) (Nat.le_of_ble_eq_true rfl) dX11_quarrel_22 ?_
    refine qt_if_eq 33 dX11_quarrel_25 (by decide) E (fun E => ?_) (fun E => ?_)
    · refine qt_iconst dX11_quarrel_33 ci_m1 ?_
      exact qt_ireturn rfl (Nat.le_of_ble_eq_true rfl) dX11_quarrel_34 E G
    · refine qt_iload_n 1 dX11_quarrel_28 rfl rfl ?_
      refine qt_iload_n 2 dX11_quarrel_29 rfl rfl ?_
      refine qt_icmp_ne 35 dX11_quarrel_30 (by decide) E (fun E => ?_) (fun E => ?_)
      · refine qt_aload_n 0 dX11_quarrel_35 rfl rfl ?_
        obtain ⟨h36, e36, E⟩ := qbv_el E
        refine qt_callVv (b2 := 0) [] (c_X11_prepare h22 e36) cv_RX11_164 (wl_0 h22) rfl rfl rfl (Nat.le_of_ble_eq_true rfl) (Nat.le_of_ble_eq_true rfl) dX11_quarrel_36 ?_
        refine qt_iconst dX11_quarrel_39 ci_1 ?_
        refine qt_iload_n 1 dX11_quarrel_40 rfl rfl ?_
        refine qt_ishl dX11_quarrel_41 ?_
        refine qt_istore_n (fun v42 => [(3, .int v42), (0, .ref (g.1 + 0)), (1, .int x1), (2, .int x2)]) dX11_quarrel_42 rfl (Nat.le_of_ble_eq_true rfl) (fun _ => rfl) E (fun v42 E => ?_)
        refine qt_iconst dX11_quarrel_43 ci_1 ?_
        refine qt_iload_n 3 dX11_quarrel_44 rfl rfl ?_
        refine qt_ishl dX11_quarrel_45 ?_
        refine qt_istore (fun v46 => [(4, .int v46), (3, .int v42), (0, .ref (g.1 + 0)), (1, .int x1), (2, .int x2)]) dX11_quarrel_46 (Nat.le_of_ble_eq_true rfl) (fun _ => rfl) E (fun v46 E => ?_)
        refine qt_aload_n 2 dX11_quarrel_48 rfl rfl ?_
        refine qt_getS 22 (wl_0 h36) fe_RX11_67 rfl dX11_quarrel_49 ?_
        refine qt_iload_n 1 dX11_quarrel_52 rfl rfl ?_
        obtain ⟨c53, h53, e53, E⟩ := qbn_el E
        refine qt_callVi (b2 := 0) [.int v42] (c_X7_any v42 h36 e53) cv_RX11_225 (wl_22 h36) rfl rfl rfl (Nat.le_of_ble_eq_true rfl) (Nat.le_of_ble_eq_true rfl) dX11_quarrel_53 ?_
        refine qt_if_eq 89 dX11_quarrel_56 (by decide) E (fun E => ?_) (fun E => ?_)
        · refine qt_iconst dX11_quarrel_89 ci_0 ?_
          exact qt_ireturn rfl (Nat.le_of_ble_eq_true rfl) dX11_quarrel_90 E G
        · refine qt_aload_n 2 dX11_quarrel_59 rfl rfl ?_
          refine qt_getS 22 (wl_0 h53) fe_RX11_67 rfl dX11_quarrel_60 ?_
          refine qt_iload 0 dX11_quarrel_63 rfl ?_
          obtain ⟨c65, h65, e65, E⟩ := qbn_el E
          refine qt_callVi (b2 := 0) [.int v46] (c_X7_any v46 h53 e65) cv_RX11_225 (wl_22 h53) rfl rfl rfl (Nat.le_of_ble_eq_true rfl) (Nat.le_of_ble_eq_true rfl) dX11_quarrel_65 ?_
          refine qt_if_eq 89 dX11_quarrel_68 (by decide) E (fun E => ?_) (fun E => ?_)
          · refine qt_iconst dX11_quarrel_89 ci_0 ?_
            exact qt_ireturn rfl (Nat.le_of_ble_eq_true rfl) dX11_quarrel_90 E G
          · refine qt_aload_n 2 dX11_quarrel_71 rfl rfl ?_
            refine qt_getS 22 (wl_0 h65) fe_RX11_67 rfl dX11_quarrel_72 ?_
            refine qt_iload_n 1 dX11_quarrel_75 rfl rfl ?_
            refine qt_iload 0 dX11_quarrel_76 rfl ?_
            refine qt_ior dX11_quarrel_78 ?_
            obtain ⟨c79, h79, e79, E⟩ := qbn_el E
            refine qt_callVi (b2 := 0) [.int (v42 ||| v46)] (c_X7_any (v42 ||| v46) h65 e79) cv_RX11_225 (wl_22 h65) rfl rfl rfl (Nat.le_of_ble_eq_true rfl) (Nat.le_of_ble_eq_true rfl) dX11_quarrel_79 ?_
            refine qt_if_ne 89 dX11_quarrel_82 (by decide) E (fun E => ?_) (fun E => ?_)
            · refine qt_iconst dX11_quarrel_89 ci_0 ?_
              exact qt_ireturn rfl (Nat.le_of_ble_eq_true rfl) dX11_quarrel_90 E G
            · refine qt_iconst dX11_quarrel_85 ci_1 ?_
              refine qt_goto 90 dX11_quarrel_86 (by decide) ?_
              exact qt_ireturn rfl (Nat.le_of_ble_eq_true rfl) dX11_quarrel_90 E G
      · refine qt_iconst dX11_quarrel_33 ci_m1 ?_
        exact qt_ireturn rfl (Nat.le_of_ble_eq_true rfl) dX11_quarrel_34 E G
