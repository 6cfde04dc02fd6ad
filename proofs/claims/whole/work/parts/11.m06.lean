noncomputable def f_X12_isSeen_b125 (x1 : Int32) (x4 : Int32) (x5 : Int32) (x6 : Int32) (x8 : Int32) (s0 : Int32) (h : qa_M) : Option ((Int32 × Int32 × Int32 × Int32 × Int32 × Int32 × qa_M) ⊕ (Int32 × qa_M)) :=
  qbd s0 (fun v125 : Int32 =>
  qbd (x8 + (1 : Int32)) (fun v127 : Int32 =>
  some (.inl (x1, x4, x5, x6, v125, v127, h))))
set_option maxRecDepth 20000 in
theorem s_X12_isSeen_b125 {l : Launch} {g : qa_G} {d : Nat} {rz : Option Value} {hz : qa_M} (x1 : Int32) (x4 : Int32) (x5 : Int32) (x6 : Int32) (x8 : Int32) (s0 : Int32) (h : qa_M) {z : ((Int32 × Int32 × Int32 × Int32 × Int32 × Int32 × qa_M) ⊕ (Int32 × qa_M))} (E : f_X12_isSeen_b125 x1 x4 x5 x6 x8 s0 h = some z) (G : (Sum.elim (fun (sz : Int32 × Int32 × Int32 × Int32 × Int32 × Int32 × qa_M) => qt_At l g (yX12_isSeen, cX12_isSeen, 11, (some .boolean)) (d + 2) 0 0 45 [(0, .ref (g.1 + 119)), (1, .int sz.1), (4, .int sz.2.1), (5, .int sz.2.2.1), (6, .int sz.2.2.2.1), (7, .int sz.2.2.2.2.1), (8, .int sz.2.2.2.2.2.1)] [] sz.2.2.2.2.2.2 rz hz) (qg_i rz hz)) z) : qt_At l g (yX12_isSeen, cX12_isSeen, 11, (some .boolean)) (d + 2) 0 0 125 [(0, .ref (g.1 + 119)), (1, .int x1), (4, .int x4), (5, .int x5), (6, .int x6), (8, .int x8)] [.int s0] h rz hz := by
  unfold f_X12_isSeen_b125 at E
  refine qt_istore (fun v125 => [(7, .int v125), (0, .ref (g.1 + 119)), (1, .int x1), (4, .int x4), (5, .int x5), (6, .int x6), (8, .int x8)]) dX12_isSeen_125 (Nat.le_of_ble_eq_true rfl) (fun _ => rfl) E (fun v125 E => ?_)
  refine qt_iinc 6 (fun v127 => [(8, .int v127), (7, .int v125), (0, .ref (g.1 + 119)), (1, .int x1), (4, .int x4), (5, .int x5), (6, .int x6)]) dX12_isSeen_127 rfl ci_1 (Nat.le_of_ble_eq_true rfl) (fun _ => rfl) E (fun v127 E => ?_)
  refine qt_goto 45 dX12_isSeen_130 (by decide) ?_
  cases E
  exact qt_sub _ [2, 3, 4, 5, 6, 1, 0] rfl (G)
noncomputable def f_X12_isSeen_b45 (x1 : Int32) (x4 : Int32) (x5 : Int32) (x6 : Int32) (x7 : Int32) (x8 : Int32) (h : qa_M) : Option ((Int32 × Int32 × Int32 × Int32 × Int32 × Int32 × qa_M) ⊕ (Int32 × qa_M)) :=
  if x4 ≤ x8 then (
   qpr (x7 = 0 ∨ x7 = 1) (
   qup (some (x7, h))))
  else (
   if x7 = 0 then (
    qpr (x7 = 0 ∨ x7 = 1) (
    qup (some (x7, h))))
   else (
    qbn (m_X12_floor ((((2 : Int32) * x8) * x5) + x4) ((2 : Int32) * x4) h) (fun (c75 : Int32) (h75 : qa_M) =>
    qbd ((x1 - x1 / (6 : Int32) * (6 : Int32)) + c75) (fun v79 : Int32 =>
    qbn (m_X12_floor ((((2 : Int32) * x8) * x6) + x4) ((2 : Int32) * x4) h75) (fun (c99 : Int32) (h99 : qa_M) =>
    qbd ((x1 / (6 : Int32)) + c99) (fun v103 : Int32 =>
    qbn (m_X12_isWood (((6 : Int32) * v103) + v79) h99) (fun (c114 : Int32) (h114 : qa_M) =>
    if c114 = 0 then (
     f_X12_isSeen_b125 x1 x4 x5 x6 x8 (1 : Int32) h114)
    else (
     f_X12_isSeen_b125 x1 x4 x5 x6 x8 (0 : Int32) h114))))))))
set_option maxRecDepth 20000 in
theorem s_X12_isSeen_b45 {l : Launch} {g : qa_G} {d : Nat} {rz : Option Value} {hz : qa_M} (x1 : Int32) (x4 : Int32) (x5 : Int32) (x6 : Int32) (x7 : Int32) (x8 : Int32) (h : qa_M) {z : ((Int32 × Int32 × Int32 × Int32 × Int32 × Int32 × qa_M) ⊕ (Int32 × qa_M))} (E : f_X12_isSeen_b45 x1 x4 x5 x6 x7 x8 h = some z) (G : (Sum.elim (fun (sz : Int32 × Int32 × Int32 × Int32 × Int32 × Int32 × qa_M) => qt_At l g (yX12_isSeen, cX12_isSeen, 11, (some .boolean)) (d + 2) 0 0 45 [(0, .ref (g.1 + 119)), (1, .int sz.1), (4, .int sz.2.1), (5, .int sz.2.2.1), (6, .int sz.2.2.2.1), (7, .int sz.2.2.2.2.1), (8, .int sz.2.2.2.2.2.1)] [] sz.2.2.2.2.2.2 rz hz) (qg_i rz hz)) z) : qt_At l g (yX12_isSeen, cX12_isSeen, 11, (some .boolean)) (d + 2) 0 0 45 [(0, .ref (g.1 + 119)), (1, .int x1), (4, .int x4), (5, .int x5), (6, .int x6), (7, .int x7), (8, .int x8)] [] h rz hz := by
  unfold f_X12_isSeen_b45 at E
  refine qt_iload 6 dX12_isSeen_45 rfl ?_
  refine qt_iload 2 dX12_isSeen_47 rfl ?_
  refine qt_icmp_ge 133 dX12_isSeen_49 (by decide) E (fun E => ?_) (fun E => ?_)
  · refine qt_iload 5 dX12_isSeen_133 rfl ?_
    obtain ⟨z135, E⟩ := qpr_el E
    obtain ⟨z0_, E, G⟩ := qup_g E G
    exact qt_zreturn rfl z135 (Nat.le_of_ble_eq_true rfl) dX12_isSeen_135 E G
  · refine qt_iload 5 dX12_isSeen_52 rfl ?_
    refine qt_if_eq 133 dX12_isSeen_54 (by decide) E (fun E => ?_) (fun E => ?_)
    · refine qt_iload 5 dX12_isSeen_133 rfl ?_
      obtain ⟨z135, E⟩ := qpr_el E
      obtain ⟨z0_, E, G⟩ := qup_g E G
      exact qt_zreturn rfl z135 (Nat.le_of_ble_eq_true rfl) dX12_isSeen_135 E G
    · refine qt_iload_n 1 dX12_isSeen_57 rfl rfl ?_
      refine qt_bipush dX12_isSeen_58 cb_6 ?_
      refine qt_iremK dX12_isSeen_60 (by decide) ?_
      refine qt_iconst dX12_isSeen_61 ci_2 ?_
      refine qt_iload 6 dX12_isSeen_62 rfl ?_
      refine qt_imul dX12_isSeen_64 ?_
      refine qt_iload 3 dX12_isSeen_65 rfl ?_
      refine qt_imul dX12_isSeen_67 ?_
      refine qt_iload 2 dX12_isSeen_68 rfl ?_
      refine qt_iadd dX12_isSeen_70 ?_
      refine qt_iconst dX12_isSeen_71 ci_2 ?_
      refine qt_iload 2 dX12_isSeen_72 rfl ?_
      refine qt_imul dX12_isSeen_74 ?_
      obtain ⟨c75, h75, e75, E⟩ := qbn_el E
      refine qt_callSi (b2 := 0) [.int ((((2 : Int32) * x8) * x5) + x4), .int ((2 : Int32) * x4)] (c_X12_floor ((((2 : Int32) * x8) * x5) + x4) ((2 : Int32) * x4) h e75) cv_RX12_180 rfl (Nat.le_of_ble_eq_true rfl) (Nat.le_of_ble_eq_true rfl) dX12_isSeen_75 ?_
      refine qt_iadd dX12_isSeen_78 ?_
      refine qt_istore (fun v79 => [(9, .int v79), (0, .ref (g.1 + 119)), (1, .int x1), (4, .int x4), (5, .int x5), (6, .int x6), (7, .int x7), (8, .int x8)]) dX12_isSeen_79 (Nat.le_of_ble_eq_true rfl) (fun _ => rfl) E (fun v79 E => ?_)
      refine qt_iload_n 2 dX12_isSeen_81 rfl rfl ?_
      refine qt_bipush dX12_isSeen_82 cb_6 ?_
      refine qt_idivK dX12_isSeen_84 (by decide) ?_
      refine qt_iconst dX12_isSeen_85 ci_2 ?_
      refine qt_iload 7 dX12_isSeen_86 rfl ?_
      refine qt_imul dX12_isSeen_88 ?_
      refine qt_iload 5 dX12_isSeen_89 rfl ?_
      refine qt_imul dX12_isSeen_91 ?_
      refine qt_iload 3 dX12_isSeen_92 rfl ?_
      refine qt_iadd dX12_isSeen_94 ?_
      refine qt_iconst dX12_isSeen_95 ci_2 ?_
      refine qt_iload 3 dX12_isSeen_96 rfl ?_
      refine qt_imul dX12_isSeen_98 ?_
      obtain ⟨c99, h99, e99, E⟩ := qbn_el E
      refine qt_callSi (b2 := 0) [.int ((((2 : Int32) * x8) * x6) + x4), .int ((2 : Int32) * x4)] (c_X12_floor ((((2 : Int32) * x8) * x6) + x4) ((2 : Int32) * x4) h75 e99) cv_RX12_180 rfl (Nat.le_of_ble_eq_true rfl) (Nat.le_of_ble_eq_true rfl) dX12_isSeen_99 ?_
      refine qt_iadd dX12_isSeen_102 ?_
      refine qt_istore (fun v103 => [(10, .int v103), (9, .int v79), (0, .ref (g.1 + 119)), (1, .int x1), (4, .int x4), (5, .int x5), (6, .int x6), (7, .int x7), (8, .int x8)]) dX12_isSeen_103 (Nat.le_of_ble_eq_true rfl) (fun _ => rfl) E (fun v103 E => ?_)
      refine qt_aload_n 2 dX12_isSeen_105 rfl rfl ?_
      refine qt_bipush dX12_isSeen_106 cb_6 ?_
      refine qt_iload 0 dX12_isSeen_108 rfl ?_
      refine qt_imul dX12_isSeen_110 ?_
      refine qt_iload 1 dX12_isSeen_111 rfl ?_
      refine qt_iadd dX12_isSeen_113 ?_
      obtain ⟨c114, h114, e114, E⟩ := qbn_el E
      refine qt_callVi (b2 := 0) [.int (((6 : Int32) * v103) + v79)] (c_X12_isWood (((6 : Int32) * v103) + v79) h99 e114) cv_RX12_183 (wl_119 h99) rfl rfl rfl (Nat.le_of_ble_eq_true rfl) (Nat.le_of_ble_eq_true rfl) dX12_isSeen_114 ?_
      refine qt_if_ne 124 dX12_isSeen_117 (by decide) E (fun E => ?_) (fun E => ?_)
      · refine qt_iconst dX12_isSeen_124 ci_0 ?_
        exact qt_sub _ [2, 3, 4, 5, 6, 8] rfl ((s_X12_isSeen_b125 x1 x4 x5 x6 x8 (0 : Int32) h114 E G))
      · refine qt_iconst dX12_isSeen_120 ci_1 ?_
        refine qt_goto 125 dX12_isSeen_121 (by decide) ?_
        exact qt_sub _ [2, 3, 4, 5, 6, 8] rfl ((s_X12_isSeen_b125 x1 x4 x5 x6 x8 (1 : Int32) h114 E G))
noncomputable def f_X12_isSeen_b45_loop (x1 : Int32) (x4 : Int32) (x5 : Int32) (x6 : Int32) (x7 : Int32) (x8 : Int32) (h : qa_M) : Option (Int32 × qa_M) := qlp (fun sz : Int32 × Int32 × Int32 × Int32 × Int32 × Int32 × qa_M => f_X12_isSeen_b45 sz.1 sz.2.1 sz.2.2.1 sz.2.2.2.1 sz.2.2.2.2.1 sz.2.2.2.2.2.1 sz.2.2.2.2.2.2) (x1, x4, x5, x6, x7, x8, h)
theorem s_X12_isSeen_b45_loop {l : Launch} {g : qa_G} {d : Nat} {rz : Option Value} {hz : qa_M} (x1 : Int32) (x4 : Int32) (x5 : Int32) (x6 : Int32) (x7 : Int32) (x8 : Int32) (h : qa_M) {z : (Int32 × qa_M)} (E : f_X12_isSeen_b45_loop x1 x4 x5 x6 x7 x8 h = some z) (G : (qg_i rz hz) z) : qt_At l g (yX12_isSeen, cX12_isSeen, 11, (some .boolean)) (d + 2) 0 0 45 [(0, .ref (g.1 + 119)), (1, .int x1), (4, .int x4), (5, .int x5), (6, .int x6), (7, .int x7), (8, .int x8)] [] h rz hz :=
  qlp_ind (fun sz : Int32 × Int32 × Int32 × Int32 × Int32 × Int32 × qa_M => qt_At l g (yX12_isSeen, cX12_isSeen, 11, (some .boolean)) (d + 2) 0 0 45 [(0, .ref (g.1 + 119)), (1, .int sz.1), (4, .int sz.2.1), (5, .int sz.2.2.1), (6, .int sz.2.2.2.1), (7, .int sz.2.2.2.2.1), (8, .int sz.2.2.2.2.2.1)] [] sz.2.2.2.2.2.2 rz hz) (fun sz E => s_X12_isSeen_b45 sz.1 sz.2.1 sz.2.2.1 sz.2.2.2.1 sz.2.2.2.2.1 sz.2.2.2.2.2.1 sz.2.2.2.2.2.2 E G) (fun sz sz2 E ih => s_X12_isSeen_b45 sz.1 sz.2.1 sz.2.2.1 sz.2.2.2.1 sz.2.2.2.2.1 sz.2.2.2.2.2.1 sz.2.2.2.2.2.2 E ih) (x1, x4, x5, x6, x7, x8, h) E
noncomputable def f_X12_isSeen_b40 (x1 : Int32) (x4 : Int32) (x5 : Int32) (x6 : Int32) (s0 : Int32) (h : qa_M) : Option (Int32 × qa_M) :=
  qbd s0 (fun v40 : Int32 =>
  qbd (1 : Int32) (fun v43 : Int32 =>
  f_X12_isSeen_b45_loop x1 x4 x5 x6 v40 v43 h))
set_option maxRecDepth 20000 in
theorem s_X12_isSeen_b40 {l : Launch} {g : qa_G} {d : Nat} {rz : Option Value} {hz : qa_M} (x1 : Int32) (x4 : Int32) (x5 : Int32) (x6 : Int32) (s0 : Int32) (h : qa_M) {z : (Int32 × qa_M)} (E : f_X12_isSeen_b40 x1 x4 x5 x6 s0 h = some z) (G : (qg_i rz hz) z) : qt_At l g (yX12_isSeen, cX12_isSeen, 11, (some .boolean)) (d + 2) 0 0 40 [(0, .ref (g.1 + 119)), (1, .int x1), (4, .int x4), (5, .int x5), (6, .int x6)] [.int s0] h rz hz := by
  unfold f_X12_isSeen_b40 at E
  refine qt_istore (fun v40 => [(7, .int v40), (0, .ref (g.1 + 119)), (1, .int x1), (4, .int x4), (5, .int x5), (6, .int x6)]) dX12_isSeen_40 (Nat.le_of_ble_eq_true rfl) (fun _ => rfl) E (fun v40 E => ?_)
  refine qt_iconst dX12_isSeen_42 ci_1 ?_
  refine qt_istore (fun v43 => [(8, .int v43), (7, .int v40), (0, .ref (g.1 + 119)), (1, .int x1), (4, .int x4), (5, .int x5), (6, .int x6)]) dX12_isSeen_43 (Nat.le_of_ble_eq_true rfl) (fun _ => rfl) E (fun v43 E => ?_)
  exact qt_sub _ [2, 3, 4, 5, 6, 1, 0] rfl ((s_X12_isSeen_b45_loop x1 x4 x5 x6 v40 v43 h E G))
noncomputable def m_X12_isSeen (x1 : Int32) (x2 : Int32) (x3 : Int32) (h : qa_M) : Option (Int32 × qa_M) :=
  qbn (m_X12_apartOf x1 x2 h) (fun (c2 : Int32) (h2 : qa_M) =>
  qbd c2 (fun v5 : Int32 =>
  qbd ((x2 - x2 / (6 : Int32) * (6 : Int32)) - (x1 - x1 / (6 : Int32) * (6 : Int32))) (fun v16 : Int32 =>
  qbd ((x2 / (6 : Int32)) - (x1 / (6 : Int32))) (fun v27 : Int32 =>
  if x3 < v5 then (
   f_X12_isSeen_b40 x1 v5 v16 v27 (0 : Int32) h2)
  else (
   f_X12_isSeen_b40 x1 v5 v16 v27 (1 : Int32) h2)))))
set_option maxRecDepth 20000 in
theorem c_X12_isSeen {l : Launch} {g : qa_G} {d : Nat} (x1 : Int32) (x2 : Int32) (x3 : Int32) (h : qa_M) {c : Int32} {h1 : qa_M} (E : m_X12_isSeen x1 x2 x3 h = some (c, h1)) : qt_Met l g (yX12_isSeen, cX12_isSeen, 11, (some .boolean)) (d + 2) 0 [.ref (g.1 + 119), .int x1, .int x2, .int x3] h (some (.int c)) h1 := by
  refine qt_Met.of (plainFor_of_name (by decide)) (Nat.le_of_ble_eq_true rfl) ?_
  have G : qg_i (some (.int c)) h1 ((c, h1)) := ⟨rfl, rfl⟩
  unfold m_X12_isSeen at E
  refine qt_iload_n 1 dX12_isSeen_0 rfl rfl ?_
  refine qt_iload_n 2 dX12_isSeen_1 rfl rfl ?_
  obtain ⟨c2, h2, e2, E⟩ := qbn_el E
  refine qt_callSi (b2 := 0) [.int x1, .int x2] (c_X12_apartOf x1 x2 h e2) cv_RX12_176 rfl (Nat.le_of_ble_eq_true rfl) (Nat.le_of_ble_eq_true rfl) dX12_isSeen_2 ?_
  refine qt_istore (fun v5 => [(4, .int v5), (0, .ref (g.1 + 119)), (1, .int x1), (2, .int x2), (3, .int x3)]) dX12_isSeen_5 (Nat.le_of_ble_eq_true rfl) (fun _ => rfl) E (fun v5 E => ?_)
  refine qt_iload_n 3 dX12_isSeen_7 rfl rfl ?_
  refine qt_bipush dX12_isSeen_8 cb_6 ?_
  refine qt_iremK dX12_isSeen_10 (by decide) ?_
  refine qt_iload_n 2 dX12_isSeen_11 rfl rfl ?_
  refine qt_bipush dX12_isSeen_12 cb_6 ?_
  refine qt_iremK dX12_isSeen_14 (by decide) ?_
  refine qt_isub dX12_isSeen_15 ?_
  refine qt_istore (fun v16 => [(5, .int v16), (4, .int v5), (0, .ref (g.1 + 119)), (1, .int x1), (2, .int x2), (3, .int x3)]) dX12_isSeen_16 (Nat.le_of_ble_eq_true rfl) (fun _ => rfl) E (fun v16 E => ?_)
  refine qt_iload_n 4 dX12_isSeen_18 rfl rfl ?_
  refine qt_bipush dX12_isSeen_19 cb_6 ?_
  refine qt_idivK dX12_isSeen_21 (by decide) ?_
  refine qt_iload_n 3 dX12_isSeen_22 rfl rfl ?_
  refine qt_bipush dX12_isSeen_23 cb_6 ?_
  refine qt_idivK dX12_isSeen_25 (by decide) ?_
  refine qt_isub dX12_isSeen_26 ?_
  refine qt_istore (fun v27 => [(6, .int v27), (5, .int v16), (4, .int v5), (0, .ref (g.1 + 119)), (1, .int x1), (2, .int x2), (3, .int x3)]) dX12_isSeen_27 (Nat.le_of_ble_eq_true rfl) (fun _ => rfl) E (fun v27 E => ?_)
  refine qt_iload 2 dX12_isSeen_29 rfl ?_
  refine qt_iload_n 6 dX12_isSeen_31 rfl rfl ?_
  refine qt_icmp_gt 39 dX12_isSeen_32 (by decide) E (fun E => ?_) (fun E => ?_)
  · refine qt_iconst dX12_isSeen_39 ci_0 ?_
    exact qt_sub _ [3, 4, 2, 1, 0] rfl ((s_X12_isSeen_b40 x1 v5 v16 v27 (0 : Int32) h2 E G))
  · refine qt_iconst dX12_isSeen_35 ci_1 ?_
    refine qt_goto 40 dX12_isSeen_36 (by decide) ?_
    exact qt_sub _ [3, 4, 2, 1, 0] rfl ((s_X12_isSeen_b40 x1 v5 v16 v27 (1 : Int32) h2 E G))
noncomputable def f_X12_manySee_b40 (x1 : Int32) (x3 : Int32) (s0 : Int32) (s1 : Int32) (h : qa_M) : Option ((Int32 × Int32 × Int32 × qa_M) ⊕ (Int32 × qa_M)) :=
  qbd (s0 + s1) (fun v41 : Int32 =>
  qbd (x3 + (1 : Int32)) (fun v42 : Int32 =>
  some (.inl (x1, v41, v42, h))))
set_option maxRecDepth 20000 in
theorem s_X12_manySee_b40 {l : Launch} {g : qa_G} {d : Nat} {rz : Option Value} {hz : qa_M} (x1 : Int32) (x3 : Int32) (s0 : Int32) (s1 : Int32) (h : qa_M) {z : ((Int32 × Int32 × Int32 × qa_M) ⊕ (Int32 × qa_M))} (E : f_X12_manySee_b40 x1 x3 s0 s1 h = some z) (G : (Sum.elim (fun (sz : Int32 × Int32 × Int32 × qa_M) => qt_At l g (yX12_manySee, cX12_manySee, 4, (some .int)) (d + 3) 0 0 4 [(0, .ref (g.1 + 119)), (1, .int sz.1), (2, .int sz.2.1), (3, .int sz.2.2.1)] [] sz.2.2.2 rz hz) (qg_i rz hz)) z) : qt_At l g (yX12_manySee, cX12_manySee, 4, (some .int)) (d + 3) 0 0 40 [(0, .ref (g.1 + 119)), (1, .int x1), (3, .int x3)] [.int s1, .int s0] h rz hz := by
  unfold f_X12_manySee_b40 at E
  refine qt_iadd dX12_manySee_40 ?_
  refine qt_istore_n (fun v41 => [(2, .int v41), (0, .ref (g.1 + 119)), (1, .int x1), (3, .int x3)]) dX12_manySee_41 rfl (Nat.le_of_ble_eq_true rfl) (fun _ => rfl) E (fun v41 E => ?_)
  refine qt_iinc 3 (fun v42 => [(3, .int v42), (2, .int v41), (0, .ref (g.1 + 119)), (1, .int x1)]) dX12_manySee_42 rfl ci_1 (Nat.le_of_ble_eq_true rfl) (fun _ => rfl) E (fun v42 E => ?_)
  refine qt_goto 4 dX12_manySee_45 (by decide) ?_
  cases E
  exact qt_sub _ [2, 3, 1, 0] rfl (G)
noncomputable def f_X12_manySee_b4 (x1 : Int32) (x2 : Int32) (x3 : Int32) (h : qa_M) : Option ((Int32 × Int32 × Int32 × qa_M) ⊕ (Int32 × qa_M)) :=
  qck (2 : Int32) 8 (
  if (h.1 120 (2 : Int32).toNatClampNeg) ≤ x3 then (
   qup (some (x2, h)))
  else (
   qck x3 8 (
   qck x3 8 (
   qbn (m_X12_isSeen (h.1 122 x3.toNatClampNeg) x1 (h.1 123 x3.toNatClampNeg) h) (fun (c29 : Int32) (h29 : qa_M) =>
   if c29 = 0 then (
    f_X12_manySee_b40 x1 x3 x2 (0 : Int32) h29)
   else (
    f_X12_manySee_b40 x1 x3 x2 (1 : Int32) h29))))))
set_option maxRecDepth 20000 in
theorem s_X12_manySee_b4 {l : Launch} {g : qa_G} {d : Nat} {rz : Option Value} {hz : qa_M} (x1 : Int32) (x2 : Int32) (x3 : Int32) (h : qa_M) {z : ((Int32 × Int32 × Int32 × qa_M) ⊕ (Int32 × qa_M))} (E : f_X12_manySee_b4 x1 x2 x3 h = some z) (G : (Sum.elim (fun (sz : Int32 × Int32 × Int32 × qa_M) => qt_At l g (yX12_manySee, cX12_manySee, 4, (some .int)) (d + 3) 0 0 4 [(0, .ref (g.1 + 119)), (1, .int sz.1), (2, .int sz.2.1), (3, .int sz.2.2.1)] [] sz.2.2.2 rz hz) (qg_i rz hz)) z) : qt_At l g (yX12_manySee, cX12_manySee, 4, (some .int)) (d + 3) 0 0 4 [(0, .ref (g.1 + 119)), (1, .int x1), (2, .int x2), (3, .int x3)] [] h rz hz := by
  unfold f_X12_manySee_b4 at E
  refine qt_iload_n 3 dX12_manySee_4 rfl rfl ?_
  refine qt_aload_n 0 dX12_manySee_5 rfl rfl ?_
  refine qt_getS 120 (wl_119 h) fe_RX12_7 rfl dX12_manySee_6 ?_
  refine qt_iconst dX12_manySee_9 ci_2 ?_
  refine qt_iald (wl_120 h) dX12_manySee_10 E (fun E => ?_)
  refine qt_icmp_ge 48 dX12_manySee_11 (by decide) E (fun E => ?_) (fun E => ?_)
  · refine qt_iload_n 2 dX12_manySee_48 rfl rfl ?_
    obtain ⟨z0_, E, G⟩ := qup_g E G
    exact qt_ireturn rfl (Nat.le_of_ble_eq_true rfl) dX12_manySee_49 E G
  · refine qt_iload_n 2 dX12_manySee_14 rfl rfl ?_
    refine qt_aload_n 0 dX12_manySee_15 rfl rfl ?_
    refine qt_aload_n 0 dX12_manySee_16 rfl rfl ?_
    refine qt_getS 122 (wl_119 h) fe_RX12_16 rfl dX12_manySee_17 ?_
    refine qt_iload_n 3 dX12_manySee_20 rfl rfl ?_
    refine qt_iald (wl_122 h) dX12_manySee_21 E (fun E => ?_)
    refine qt_iload_n 1 dX12_manySee_22 rfl rfl ?_
    refine qt_aload_n 0 dX12_manySee_23 rfl rfl ?_
    refine qt_getS 123 (wl_119 h) fe_RX12_19 rfl dX12_manySee_24 ?_
    refine qt_iload_n 3 dX12_manySee_27 rfl rfl ?_
    refine qt_iald (wl_123 h) dX12_manySee_28 E (fun E => ?_)
    obtain ⟨c29, h29, e29, E⟩ := qbn_el E
    refine qt_callVi (b2 := 0) [.int (h.1 122 x3.toNatClampNeg), .int x1, .int (h.1 123 x3.toNatClampNeg)] (c_X12_isSeen (h.1 122 x3.toNatClampNeg) x1 (h.1 123 x3.toNatClampNeg) h e29) cv_RX12_190 (wl_119 h) rfl rfl rfl (Nat.le_of_ble_eq_true rfl) (Nat.le_of_ble_eq_true rfl) dX12_manySee_29 ?_
    refine qt_if_eq 39 dX12_manySee_32 (by decide) E (fun E => ?_) (fun E => ?_)
    · refine qt_iconst dX12_manySee_39 ci_0 ?_
      exact qt_sub _ [0, 1, 3] rfl ((s_X12_manySee_b40 x1 x3 x2 (0 : Int32) h29 E G))
    · refine qt_iconst dX12_manySee_35 ci_1 ?_
      refine qt_goto 40 dX12_manySee_36 (by decide) ?_
      exact qt_sub _ [0, 1, 3] rfl ((s_X12_manySee_b40 x1 x3 x2 (1 : Int32) h29 E G))
noncomputable def f_X12_manySee_b4_loop (x1 : Int32) (x2 : Int32) (x3 : Int32) (h : qa_M) : Option (Int32 × qa_M) := qlp (fun sz : Int32 × Int32 × Int32 × qa_M => f_X12_manySee_b4 sz.1 sz.2.1 sz.2.2.1 sz.2.2.2) (x1, x2, x3, h)
theorem s_X12_manySee_b4_loop {l : Launch} {g : qa_G} {d : Nat} {rz : Option Value} {hz : qa_M} (x1 : Int32) (x2 : Int32) (x3 : Int32) (h : qa_M) {z : (Int32 × qa_M)} (E : f_X12_manySee_b4_loop x1 x2 x3 h = some z) (G : (qg_i rz hz) z) : qt_At l g (yX12_manySee, cX12_manySee, 4, (some .int)) (d + 3) 0 0 4 [(0, .ref (g.1 + 119)), (1, .int x1), (2, .int x2), (3, .int x3)] [] h rz hz :=
  qlp_ind (fun sz : Int32 × Int32 × Int32 × qa_M => qt_At l g (yX12_manySee, cX12_manySee, 4, (some .int)) (d + 3) 0 0 4 [(0, .ref (g.1 + 119)), (1, .int sz.1), (2, .int sz.2.1), (3, .int sz.2.2.1)] [] sz.2.2.2 rz hz) (fun sz E => s_X12_manySee_b4 sz.1 sz.2.1 sz.2.2.1 sz.2.2.2 E G) (fun sz sz2 E ih => s_X12_manySee_b4 sz.1 sz.2.1 sz.2.2.1 sz.2.2.2 E ih) (x1, x2, x3, h) E
noncomputable def m_X12_manySee (x1 : Int32) (h : qa_M) : Option (Int32 × qa_M) :=
  qbd (0 : Int32) (fun v1 : Int32 =>
  qbd (0 : Int32) (fun v3 : Int32 =>
  f_X12_manySee_b4_loop x1 v1 v3 h))
set_option maxRecDepth 20000 in
theorem c_X12_manySee {l : Launch} {g : qa_G} {d : Nat} (x1 : Int32) (h : qa_M) {c : Int32} {h1 : qa_M} (E : m_X12_manySee x1 h = some (c, h1)) : qt_Met l g (yX12_manySee, cX12_manySee, 4, (some .int)) (d + 3) 0 [.ref (g.1 + 119), .int x1] h (some (.int c)) h1 := by
  refine qt_Met.of (plainFor_of_name (by decide)) (Nat.le_of_ble_eq_true rfl) ?_
  have G : qg_i (some (.int c)) h1 ((c, h1)) := ⟨rfl, rfl⟩
  unfold m_X12_manySee at E
  refine qt_iconst dX12_manySee_0 ci_0 ?_
  refine qt_istore_n (fun v1 => [(2, .int v1), (0, .ref (g.1 + 119)), (1, .int x1)]) dX12_manySee_1 rfl (Nat.le_of_ble_eq_true rfl) (fun _ => rfl) E (fun v1 E => ?_)
  refine qt_iconst dX12_manySee_2 ci_0 ?_
  refine qt_istore_n (fun v3 => [(3, .int v3), (2, .int v1), (0, .ref (g.1 + 119)), (1, .int x1)]) dX12_manySee_3 rfl (Nat.le_of_ble_eq_true rfl) (fun _ => rfl) E (fun v3 E => ?_)
  exact qt_sub _ [2, 3, 1, 0] rfl ((s_X12_manySee_b4_loop x1 v1 v3 h E G))
noncomputable def f_X12_roadSet_b97 (x1 : Int32) (x4 : Int32) (s0 : Int64) (s1 : Int64) (h : qa_M) : Option ((Int32 × Int64 × Int32 × qa_M) ⊕ (Int64 × qa_M)) :=
  qbd (s0 ||| s1) (fun v98 : Int64 =>
  qbd (x4 + (1 : Int32)) (fun v99 : Int32 =>
  some (.inl (x1, v98, v99, h))))
set_option maxRecDepth 20000 in
theorem s_X12_roadSet_b97 {l : Launch} {g : qa_G} {d : Nat} {rz : Option Value} {hz : qa_M} (x1 : Int32) (x4 : Int32) (s0 : Int64) (s1 : Int64) (h : qa_M) {z : ((Int32 × Int64 × Int32 × qa_M) ⊕ (Int64 × qa_M))} (E : f_X12_roadSet_b97 x1 x4 s0 s1 h = some z) (G : (Sum.elim (fun (sz : Int32 × Int64 × Int32 × qa_M) => qt_At l g (yX12_roadSet, cX12_roadSet, 6, (some .long)) (d + 1) 0 0 5 [(0, .ref (g.1 + 119)), (1, .int sz.1), (2, .long sz.2.1), (4, .int sz.2.2.1)] [] sz.2.2.2 rz hz) (qg_l rz hz)) z) : qt_At l g (yX12_roadSet, cX12_roadSet, 6, (some .long)) (d + 1) 0 0 97 [(0, .ref (g.1 + 119)), (1, .int x1), (4, .int x4)] [.long s1, .long s0] h rz hz := by
  unfold f_X12_roadSet_b97 at E
  refine qt_lor dX12_roadSet_97 ?_
  refine qt_lstore_n (fun v98 => [(2, .long v98), (0, .ref (g.1 + 119)), (1, .int x1), (4, .int x4)]) dX12_roadSet_98 rfl (Nat.le_of_ble_eq_true rfl) (fun _ => rfl) E (fun v98 E => ?_)
  refine qt_iinc 3 (fun v99 => [(4, .int v99), (2, .long v98), (0, .ref (g.1 + 119)), (1, .int x1)]) dX12_roadSet_99 rfl ci_1 (Nat.le_of_ble_eq_true rfl) (fun _ => rfl) E (fun v99 E => ?_)
  refine qt_goto 5 dX12_roadSet_102 (by decide) ?_
  cases E
  exact qt_sub _ [2, 3, 1, 0] rfl (G)
noncomputable def f_X12_roadSet_b81 (x1 : Int32) (x2 : Int64) (x4 : Int32) (s0 : Int32) (h : qa_M) : Option ((Int32 × Int64 × Int32 × qa_M) ⊕ (Int64 × qa_M)) :=
  qbd s0 (fun v81 : Int32 =>
  if v81 = 0 then (
   f_X12_roadSet_b97 x1 x4 x2 (0 : Int64) h)
  else (
   f_X12_roadSet_b97 x1 x4 x2 (q_lshl (1 : Int64) x4) h))
set_option maxRecDepth 20000 in
theorem s_X12_roadSet_b81 {l : Launch} {g : qa_G} {d : Nat} {rz : Option Value} {hz : qa_M} (x1 : Int32) (x2 : Int64) (x4 : Int32) (s0 : Int32) (h : qa_M) {z : ((Int32 × Int64 × Int32 × qa_M) ⊕ (Int64 × qa_M))} (E : f_X12_roadSet_b81 x1 x2 x4 s0 h = some z) (G : (Sum.elim (fun (sz : Int32 × Int64 × Int32 × qa_M) => qt_At l g (yX12_roadSet, cX12_roadSet, 6, (some .long)) (d + 1) 0 0 5 [(0, .ref (g.1 + 119)), (1, .int sz.1), (2, .long sz.2.1), (4, .int sz.2.2.1)] [] sz.2.2.2 rz hz) (qg_l rz hz)) z) : qt_At l g (yX12_roadSet, cX12_roadSet, 6, (some .long)) (d + 1) 0 0 81 [(0, .ref (g.1 + 119)), (1, .int x1), (2, .long x2), (4, .int x4)] [.int s0] h rz hz := by
  unfold f_X12_roadSet_b81 at E
  refine qt_istore (fun v81 => [(5, .int v81), (0, .ref (g.1 + 119)), (1, .int x1), (2, .long x2), (4, .int x4)]) dX12_roadSet_81 (Nat.le_of_ble_eq_true rfl) (fun _ => rfl) E (fun v81 E => ?_)
  refine qt_lload_n 3 dX12_roadSet_83 rfl rfl ?_
  refine qt_iload 0 dX12_roadSet_84 rfl ?_
  refine qt_if_eq 96 dX12_roadSet_86 (by decide) E (fun E => ?_) (fun E => ?_)
  · refine qt_lconst dX12_roadSet_96 cl_0 ?_
    exact qt_sub _ [1, 2, 4] rfl ((s_X12_roadSet_b97 x1 x4 x2 (0 : Int64) h E G))
  · refine qt_lconst dX12_roadSet_89 cl_1 ?_
    refine qt_iload 4 dX12_roadSet_90 rfl ?_
    refine qt_lshl dX12_roadSet_92 ?_
    refine qt_goto 97 dX12_roadSet_93 (by decide) ?_
    exact qt_sub _ [1, 2, 4] rfl ((s_X12_roadSet_b97 x1 x4 x2 (q_lshl (1 : Int64) x4) h E G))
noncomputable def f_X12_roadSet_b80 (x1 : Int32) (x2 : Int64) (x4 : Int32) (h : qa_M) : Option ((Int32 × Int64 × Int32 × qa_M) ⊕ (Int64 × qa_M)) :=
  f_X12_roadSet_b81 x1 x2 x4 (0 : Int32) h
set_option maxRecDepth 20000 in
theorem s_X12_roadSet_b80 {l : Launch} {g : qa_G} {d : Nat} {rz : Option Value} {hz : qa_M} (x1 : Int32) (x2 : Int64) (x4 : Int32) (h : qa_M) {z : ((Int32 × Int64 × Int32 × qa_M) ⊕ (Int64 × qa_M))} (E : f_X12_roadSet_b80 x1 x2 x4 h = some z) (G : (Sum.elim (fun (sz : Int32 × Int64 × Int32 × qa_M) => qt_At l g (yX12_roadSet, cX12_roadSet, 6, (some .long)) (d + 1) 0 0 5 [(0, .ref (g.1 + 119)), (1, .int sz.1), (2, .long sz.2.1), (4, .int sz.2.2.1)] [] sz.2.2.2 rz hz) (qg_l rz hz)) z) : qt_At l g (yX12_roadSet, cX12_roadSet, 6, (some .long)) (d + 1) 0 0 80 [(0, .ref (g.1 + 119)), (1, .int x1), (2, .long x2), (4, .int x4)] [] h rz hz := by
  unfold f_X12_roadSet_b80 at E
  refine qt_iconst dX12_roadSet_80 ci_0 ?_
  exact qt_sub _ [0, 1, 2, 3] rfl ((s_X12_roadSet_b81 x1 x2 x4 (0 : Int32) h E G))
noncomputable def f_X12_roadSet_b5 (x1 : Int32) (x2 : Int64) (x4 : Int32) (h : qa_M) : Option ((Int32 × Int64 × Int32 × qa_M) ⊕ (Int64 × qa_M)) :=
  if (36 : Int32) ≤ x4 then (
   qup (some (x2, h)))
  else (
   qck x1 6 (
   qck x1 6 (
   qbn (m_X12_in ((x4 - x4 / (6 : Int32) * (6 : Int32)).toInt64) (((h.1 124 x1.toNatClampNeg) - (h.1 124 x1.toNatClampNeg) / (6 : Int32) * (6 : Int32)).toInt64) (((h.1 125 x1.toNatClampNeg) - (h.1 125 x1.toNatClampNeg) / (6 : Int32) * (6 : Int32)).toInt64) h) (fun (c38 : Int32) (h38 : qa_M) =>
   if c38 = 0 then (
    f_X12_roadSet_b80 x1 x2 x4 h38)
   else (
    qck x1 6 (
    qck x1 6 (
    qbn (m_X12_in ((x4 / (6 : Int32)).toInt64) (((h38.1 124 x1.toNatClampNeg) / (6 : Int32)).toInt64) (((h38.1 125 x1.toNatClampNeg) / (6 : Int32)).toInt64) h38) (fun (c70 : Int32) (h70 : qa_M) =>
    if c70 = 0 then (
     f_X12_roadSet_b80 x1 x2 x4 h70)
    else (
     f_X12_roadSet_b81 x1 x2 x4 (1 : Int32) h70)))))))))
set_option maxRecDepth 20000 in
theorem s_X12_roadSet_b5 {l : Launch} {g : qa_G} {d : Nat} {rz : Option Value} {hz : qa_M} (x1 : Int32) (x2 : Int64) (x4 : Int32) (h : qa_M) {z : ((Int32 × Int64 × Int32 × qa_M) ⊕ (Int64 × qa_M))} (E : f_X12_roadSet_b5 x1 x2 x4 h = some z) (G : (Sum.elim (fun (sz : Int32 × Int64 × Int32 × qa_M) => qt_At l g (yX12_roadSet, cX12_roadSet, 6, (some .long)) (d + 1) 0 0 5 [(0, .ref (g.1 + 119)), (1, .int sz.1), (2, .long sz.2.1), (4, .int sz.2.2.1)] [] sz.2.2.2 rz hz) (qg_l rz hz)) z) : qt_At l g (yX12_roadSet, cX12_roadSet, 6, (some .long)) (d + 1) 0 0 5 [(0, .ref (g.1 + 119)), (1, .int x1), (2, .long x2), (4, .int x4)] [] h rz hz := by
  unfold f_X12_roadSet_b5 at E
  refine qt_iload 3 dX12_roadSet_5 rfl ?_
  refine qt_bipush dX12_roadSet_7 cb_36 ?_
  refine qt_icmp_ge 105 dX12_roadSet_9 (by decide) E (fun E => ?_) (fun E => ?_)
  · refine qt_lload_n 2 dX12_roadSet_105 rfl rfl ?_
    obtain ⟨z0_, E, G⟩ := qup_g E G
    exact qt_lreturn rfl (Nat.le_of_ble_eq_true rfl) dX12_roadSet_106 E G
  · refine qt_iload 3 dX12_roadSet_12 rfl ?_
    refine qt_bipush dX12_roadSet_14 cb_6 ?_
    refine qt_iremK dX12_roadSet_16 (by decide) ?_
    refine qt_i2l dX12_roadSet_17 ?_
    refine qt_aload_n 0 dX12_roadSet_18 rfl rfl ?_
    refine qt_getS 124 (wl_119 h) fe_RX12_22 rfl dX12_roadSet_19 ?_
    refine qt_iload_n 1 dX12_roadSet_22 rfl rfl ?_
    refine qt_iald (wl_124 h) dX12_roadSet_23 E (fun E => ?_)
    refine qt_bipush dX12_roadSet_24 cb_6 ?_
    refine qt_iremK dX12_roadSet_26 (by decide) ?_
    refine qt_i2l dX12_roadSet_27 ?_
    refine qt_aload_n 0 dX12_roadSet_28 rfl rfl ?_
    refine qt_getS 125 (wl_119 h) fe_RX12_25 rfl dX12_roadSet_29 ?_
    refine qt_iload_n 1 dX12_roadSet_32 rfl rfl ?_
    refine qt_iald (wl_125 h) dX12_roadSet_33 E (fun E => ?_)
    refine qt_bipush dX12_roadSet_34 cb_6 ?_
    refine qt_iremK dX12_roadSet_36 (by decide) ?_
    refine qt_i2l dX12_roadSet_37 ?_
    obtain ⟨c38, h38, e38, E⟩ := qbn_el E
    refine qt_callSi (b2 := 0) [.long ((x4 - x4 / (6 : Int32) * (6 : Int32)).toInt64), .long (((h.1 124 x1.toNatClampNeg) - (h.1 124 x1.toNatClampNeg) / (6 : Int32) * (6 : Int32)).toInt64), .long (((h.1 125 x1.toNatClampNeg) - (h.1 125 x1.toNatClampNeg) / (6 : Int32) * (6 : Int32)).toInt64)] (c_X12_in ((x4 - x4 / (6 : Int32) * (6 : Int32)).toInt64) (((h.1 124 x1.toNatClampNeg) - (h.1 124 x1.toNatClampNeg) / (6 : Int32) * (6 : Int32)).toInt64) (((h.1 125 x1.toNatClampNeg) - (h.1 125 x1.toNatClampNeg) / (6 : Int32) * (6 : Int32)).toInt64) h e38) cv_RX12_161 rfl (Nat.le_of_ble_eq_true rfl) (Nat.le_of_ble_eq_true rfl) dX12_roadSet_38 ?_
    refine qt_if_eq 80 dX12_roadSet_41 (by decide) E (fun E => ?_) (fun E => ?_)
    · exact qt_sub _ [0, 1, 2, 3] rfl ((s_X12_roadSet_b80 x1 x2 x4 h38 E G))
    · refine qt_iload 3 dX12_roadSet_44 rfl ?_
      refine qt_bipush dX12_roadSet_46 cb_6 ?_
      refine qt_idivK dX12_roadSet_48 (by decide) ?_
      refine qt_i2l dX12_roadSet_49 ?_
      refine qt_aload_n 0 dX12_roadSet_50 rfl rfl ?_
      refine qt_getS 124 (wl_119 h38) fe_RX12_22 rfl dX12_roadSet_51 ?_
      refine qt_iload_n 1 dX12_roadSet_54 rfl rfl ?_
      refine qt_iald (wl_124 h38) dX12_roadSet_55 E (fun E => ?_)
      refine qt_bipush dX12_roadSet_56 cb_6 ?_
      refine qt_idivK dX12_roadSet_58 (by decide) ?_
      refine qt_i2l dX12_roadSet_59 ?_
      refine qt_aload_n 0 dX12_roadSet_60 rfl rfl ?_
      refine qt_getS 125 (wl_119 h38) fe_RX12_25 rfl dX12_roadSet_61 ?_
      refine qt_iload_n 1 dX12_roadSet_64 rfl rfl ?_
      refine qt_iald (wl_125 h38) dX12_roadSet_65 E (fun E => ?_)
      refine qt_bipush dX12_roadSet_66 cb_6 ?_
      refine qt_idivK dX12_roadSet_68 (by decide) ?_
      refine qt_i2l dX12_roadSet_69 ?_
      obtain ⟨c70, h70, e70, E⟩ := qbn_el E
      refine qt_callSi (b2 := 0) [.long ((x4 / (6 : Int32)).toInt64), .long (((h38.1 124 x1.toNatClampNeg) / (6 : Int32)).toInt64), .long (((h38.1 125 x1.toNatClampNeg) / (6 : Int32)).toInt64)] (c_X12_in ((x4 / (6 : Int32)).toInt64) (((h38.1 124 x1.toNatClampNeg) / (6 : Int32)).toInt64) (((h38.1 125 x1.toNatClampNeg) / (6 : Int32)).toInt64) h38 e70) cv_RX12_161 rfl (Nat.le_of_ble_eq_true rfl) (Nat.le_of_ble_eq_true rfl) dX12_roadSet_70 ?_
      refine qt_if_eq 80 dX12_roadSet_73 (by decide) E (fun E => ?_) (fun E => ?_)
      · exact qt_sub _ [0, 1, 2, 3] rfl ((s_X12_roadSet_b80 x1 x2 x4 h70 E G))
      · refine qt_iconst dX12_roadSet_76 ci_1 ?_
        refine qt_goto 81 dX12_roadSet_77 (by decide) ?_
        exact qt_sub _ [0, 1, 2, 3] rfl ((s_X12_roadSet_b81 x1 x2 x4 (1 : Int32) h70 E G))
noncomputable def f_X12_roadSet_b5_loop (x1 : Int32) (x2 : Int64) (x4 : Int32) (h : qa_M) : Option (Int64 × qa_M) := qlp (fun sz : Int32 × Int64 × Int32 × qa_M => f_X12_roadSet_b5 sz.1 sz.2.1 sz.2.2.1 sz.2.2.2) (x1, x2, x4, h)
theorem s_X12_roadSet_b5_loop {l : Launch} {g : qa_G} {d : Nat} {rz : Option Value} {hz : qa_M} (x1 : Int32) (x2 : Int64) (x4 : Int32) (h : qa_M) {z : (Int64 × qa_M)} (E : f_X12_roadSet_b5_loop x1 x2 x4 h = some z) (G : (qg_l rz hz) z) : qt_At l g (yX12_roadSet, cX12_roadSet, 6, (some .long)) (d + 1) 0 0 5 [(0, .ref (g.1 + 119)), (1, .int x1), (2, .long x2), (4, .int x4)] [] h rz hz :=
  qlp_ind (fun sz : Int32 × Int64 × Int32 × qa_M => qt_At l g (yX12_roadSet, cX12_roadSet, 6, (some .long)) (d + 1) 0 0 5 [(0, .ref (g.1 + 119)), (1, .int sz.1), (2, .long sz.2.1), (4, .int sz.2.2.1)] [] sz.2.2.2 rz hz) (fun sz E => s_X12_roadSet_b5 sz.1 sz.2.1 sz.2.2.1 sz.2.2.2 E G) (fun sz sz2 E ih => s_X12_roadSet_b5 sz.1 sz.2.1 sz.2.2.1 sz.2.2.2 E ih) (x1, x2, x4, h) E
noncomputable def m_X12_roadSet (x1 : Int32) (h : qa_M) : Option (Int64 × qa_M) :=
  qbd (0 : Int64) (fun v1 : Int64 =>
  qbd (0 : Int32) (fun v3 : Int32 =>
  f_X12_roadSet_b5_loop x1 v1 v3 h))
set_option maxRecDepth 20000 in
theorem c_X12_roadSet {l : Launch} {g : qa_G} {d : Nat} (x1 : Int32) (h : qa_M) {c : Int64} {h1 : qa_M} (E : m_X12_roadSet x1 h = some (c, h1)) : qt_Met l g (yX12_roadSet, cX12_roadSet, 6, (some .long)) (d + 1) 0 [.ref (g.1 + 119), .int x1] h (some (.long c)) h1 := by
  refine qt_Met.of (plainFor_of_name (by decide)) (Nat.le_of_ble_eq_true rfl) ?_
  have G : qg_l (some (.long c)) h1 ((c, h1)) := ⟨rfl, rfl⟩
  unfold m_X12_roadSet at E
  refine qt_lconst dX12_roadSet_0 cl_0 ?_
  refine qt_lstore_n (fun v1 => [(2, .long v1), (0, .ref (g.1 + 119)), (1, .int x1)]) dX12_roadSet_1 rfl (Nat.le_of_ble_eq_true rfl) (fun _ => rfl) E (fun v1 E => ?_)
  refine qt_iconst dX12_roadSet_2 ci_0 ?_
  refine qt_istore (fun v3 => [(4, .int v3), (2, .long v1), (0, .ref (g.1 + 119)), (1, .int x1)]) dX12_roadSet_3 (Nat.le_of_ble_eq_true rfl) (fun _ => rfl) E (fun v3 E => ?_)
  exact qt_sub _ [2, 3, 1, 0] rfl ((s_X12_roadSet_b5_loop x1 v1 v3 h E G))
noncomputable def m_X12_has (x0 : Int64) (x2 : Int32) (h : qa_M) : Option (Int32 × qa_M) :=
  if ((q_lshr x0 x2) &&& (1 : Int64)) = (1 : Int64) then (
   some ((1 : Int32), h))
  else (
   some ((0 : Int32), h))
set_option maxRecDepth 20000 in
theorem c_X12_has {l : Launch} {g : qa_G} {d : Nat} (x0 : Int64) (x2 : Int32) (h : qa_M) {c : Int32} {h1 : qa_M} (E : m_X12_has x0 x2 h = some (c, h1)) : qt_Met l g (yX12_has, cX12_has, 3, (some .boolean)) d 0 [.long x0, .int x2] h (some (.int c)) h1 := by
  refine qt_Met.of (plainFor_of_name (by decide)) (Nat.le_of_ble_eq_true rfl) ?_
  have G : qg_i (some (.int c)) h1 ((c, h1)) := ⟨rfl, rfl⟩
  unfold m_X12_has at E
  refine qt_lload_n 0 dX12_has_0 rfl rfl ?_
  refine qt_iload_n 1 dX12_has_1 rfl rfl ?_
  refine qt_lshr dX12_has_2 ?_
  refine qt_lconst dX12_has_3 cl_1 ?_
  refine qt_land dX12_has_4 ?_
  refine qt_lconst dX12_has_5 cl_1 ?_
  refine qt_lc_ne 14 dX12_has_6 dX12_has_7 (by decide) E (fun E => ?_) (fun E => ?_)
  · refine qt_iconst dX12_has_14 ci_0 ?_
    exact qt_zreturn rfl (Or.inl rfl) (Nat.le_of_ble_eq_true rfl) dX12_has_15 E G
  · refine qt_iconst dX12_has_10 ci_1 ?_
    refine qt_goto 15 dX12_has_11 (by decide) ?_
    exact qt_zreturn rfl (Or.inr rfl) (Nat.le_of_ble_eq_true rfl) dX12_has_15 E G
noncomputable def f_X12_manyRoads_b32 (x1 : Int32) (x3 : Int32) (s0 : Int32) (s1 : Int32) (h : qa_M) : Option ((Int32 × Int32 × Int32 × qa_M) ⊕ (Int32 × qa_M)) :=
  qbd (s0 + s1) (fun v33 : Int32 =>
  qbd (x3 + (1 : Int32)) (fun v34 : Int32 =>
  some (.inl (x1, v33, v34, h))))
set_option maxRecDepth 20000 in
theorem s_X12_manyRoads_b32 {l : Launch} {g : qa_G} {d : Nat} {rz : Option Value} {hz : qa_M} (x1 : Int32) (x3 : Int32) (s0 : Int32) (s1 : Int32) (h : qa_M) {z : ((Int32 × Int32 × Int32 × qa_M) ⊕ (Int32 × qa_M))} (E : f_X12_manyRoads_b32 x1 x3 s0 s1 h = some z) (G : (Sum.elim (fun (sz : Int32 × Int32 × Int32 × qa_M) => qt_At l g (yX12_manyRoads, cX12_manyRoads, 4, (some .int)) (d + 2) 0 0 4 [(0, .ref (g.1 + 119)), (1, .int sz.1), (2, .int sz.2.1), (3, .int sz.2.2.1)] [] sz.2.2.2 rz hz) (qg_i rz hz)) z) : qt_At l g (yX12_manyRoads, cX12_manyRoads, 4, (some .int)) (d + 2) 0 0 32 [(0, .ref (g.1 + 119)), (1, .int x1), (3, .int x3)] [.int s1, .int s0] h rz hz := by
  unfold f_X12_manyRoads_b32 at E
  refine qt_iadd dX12_manyRoads_32 ?_
  refine qt_istore_n (fun v33 => [(2, .int v33), (0, .ref (g.1 + 119)), (1, .int x1), (3, .int x3)]) dX12_manyRoads_33 rfl (Nat.le_of_ble_eq_true rfl) (fun _ => rfl) E (fun v33 E => ?_)
  refine qt_iinc 3 (fun v34 => [(3, .int v34), (2, .int v33), (0, .ref (g.1 + 119)), (1, .int x1)]) dX12_manyRoads_34 rfl ci_1 (Nat.le_of_ble_eq_true rfl) (fun _ => rfl) E (fun v34 E => ?_)
  refine qt_goto 4 dX12_manyRoads_37 (by decide) ?_
  cases E
  exact qt_sub _ [2, 3, 1, 0] rfl (G)
noncomputable def f_X12_manyRoads_b4 (x1 : Int32) (x2 : Int32) (x3 : Int32) (h : qa_M) : Option ((Int32 × Int32 × Int32 × qa_M) ⊕ (Int32 × qa_M)) :=
  qck (3 : Int32) 8 (
  if (h.1 120 (3 : Int32).toNatClampNeg) ≤ x3 then (
   qup (some (x2, h)))
  else (
   qbn (m_X12_roadSet x3 h) (fun (c17 : Int64) (h17 : qa_M) =>
   qbn (m_X12_has c17 x1 h17) (fun (c21 : Int32) (h21 : qa_M) =>
   if c21 = 0 then (
    f_X12_manyRoads_b32 x1 x3 x2 (0 : Int32) h21)
   else (
    f_X12_manyRoads_b32 x1 x3 x2 (1 : Int32) h21)))))
set_option maxRecDepth 20000 in
theorem s_X12_manyRoads_b4 {l : Launch} {g : qa_G} {d : Nat} {rz : Option Value} {hz : qa_M} (x1 : Int32) (x2 : Int32) (x3 : Int32) (h : qa_M) {z : ((Int32 × Int32 × Int32 × qa_M) ⊕ (Int32 × qa_M))} (E : f_X12_manyRoads_b4 x1 x2 x3 h = some z) (G : (Sum.elim (fun (sz : Int32 × Int32 × Int32 × qa_M) => qt_At l g (yX12_manyRoads, cX12_manyRoads, 4, (some .int)) (d + 2) 0 0 4 [(0, .ref (g.1 + 119)), (1, .int sz.1), (2, .int sz.2.1), (3, .int sz.2.2.1)] [] sz.2.2.2 rz hz) (qg_i rz hz)) z) : qt_At l g (yX12_manyRoads, cX12_manyRoads, 4, (some .int)) (d + 2) 0 0 4 [(0, .ref (g.1 + 119)), (1, .int x1), (2, .int x2), (3, .int x3)] [] h rz hz := by
  unfold f_X12_manyRoads_b4 at E
  refine qt_iload_n 3 dX12_manyRoads_4 rfl rfl ?_
  refine qt_aload_n 0 dX12_manyRoads_5 rfl rfl ?_
  refine qt_getS 120 (wl_119 h) fe_RX12_7 rfl dX12_manyRoads_6 ?_
  refine qt_iconst dX12_manyRoads_9 ci_3 ?_
  refine qt_iald (wl_120 h) dX12_manyRoads_10 E (fun E => ?_)
  refine qt_icmp_ge 40 dX12_manyRoads_11 (by decide) E (fun E => ?_) (fun E => ?_)
  · refine qt_iload_n 2 dX12_manyRoads_40 rfl rfl ?_
    obtain ⟨z0_, E, G⟩ := qup_g E G
    exact qt_ireturn rfl (Nat.le_of_ble_eq_true rfl) dX12_manyRoads_41 E G
  · refine qt_iload_n 2 dX12_manyRoads_14 rfl rfl ?_
    refine qt_aload_n 0 dX12_manyRoads_15 rfl rfl ?_
    refine qt_iload_n 3 dX12_manyRoads_16 rfl rfl ?_
    obtain ⟨c17, h17, e17, E⟩ := qbn_el E
    refine qt_callVl (b2 := 0) [.int x3] (c_X12_roadSet x3 h e17) cv_RX12_207 (wl_119 h) rfl rfl rfl (Nat.le_of_ble_eq_true rfl) (Nat.le_of_ble_eq_true rfl) dX12_manyRoads_17 ?_
    refine qt_iload_n 1 dX12_manyRoads_20 rfl rfl ?_
    obtain ⟨c21, h21, e21, E⟩ := qbn_el E
    refine qt_callSi (b2 := 0) [.long c17, .int x1] (c_X12_has c17 x1 h17 e21) cv_RX12_211 rfl (Nat.le_of_ble_eq_true rfl) (Nat.le_of_ble_eq_true rfl) dX12_manyRoads_21 ?_
    refine qt_if_eq 31 dX12_manyRoads_24 (by decide) E (fun E => ?_) (fun E => ?_)
    · refine qt_iconst dX12_manyRoads_31 ci_0 ?_
      exact qt_sub _ [0, 1, 3] rfl ((s_X12_manyRoads_b32 x1 x3 x2 (0 : Int32) h21 E G))
    · refine qt_iconst dX12_manyRoads_27 ci_1 ?_
      refine qt_goto 32 dX12_manyRoads_28 (by decide) ?_
      exact qt_sub _ [0, 1, 3] rfl ((s_X12_manyRoads_b32 x1 x3 x2 (1 : Int32) h21 E G))
noncomputable def f_X12_manyRoads_b4_loop (x1 : Int32) (x2 : Int32) (x3 : Int32) (h : qa_M) : Option (Int32 × qa_M) := qlp (fun sz : Int32 × Int32 × Int32 × qa_M => f_X12_manyRoads_b4 sz.1 sz.2.1 sz.2.2.1 sz.2.2.2) (x1, x2, x3, h)
theorem s_X12_manyRoads_b4_loop {l : Launch} {g : qa_G} {d : Nat} {rz : Option Value} {hz : qa_M} (x1 : Int32) (x2 : Int32) (x3 : Int32) (h : qa_M) {z : (Int32 × qa_M)} (E : f_X12_manyRoads_b4_loop x1 x2 x3 h = some z) (G : (qg_i rz hz) z) : qt_At l g (yX12_manyRoads, cX12_manyRoads, 4, (some .int)) (d + 2) 0 0 4 [(0, .ref (g.1 + 119)), (1, .int x1), (2, .int x2), (3, .int x3)] [] h rz hz :=
  qlp_ind (fun sz : Int32 × Int32 × Int32 × qa_M => qt_At l g (yX12_manyRoads, cX12_manyRoads, 4, (some .int)) (d + 2) 0 0 4 [(0, .ref (g.1 + 119)), (1, .int sz.1), (2, .int sz.2.1), (3, .int sz.2.2.1)] [] sz.2.2.2 rz hz) (fun sz E => s_X12_manyRoads_b4 sz.1 sz.2.1 sz.2.2.1 sz.2.2.2 E G) (fun sz sz2 E ih => s_X12_manyRoads_b4 sz.1 sz.2.1 sz.2.2.1 sz.2.2.2 E ih) (x1, x2, x3, h) E
noncomputable def m_X12_manyRoads (x1 : Int32) (h : qa_M) : Option (Int32 × qa_M) :=
  qbd (0 : Int32) (fun v1 : Int32 =>
  qbd (0 : Int32) (fun v3 : Int32 =>
  f_X12_manyRoads_b4_loop x1 v1 v3 h))
set_option maxRecDepth 20000 in
theorem c_X12_manyRoads {l : Launch} {g : qa_G} {d : Nat} (x1 : Int32) (h : qa_M) {c : Int32} {h1 : qa_M} (E : m_X12_manyRoads x1 h = some (c, h1)) : qt_Met l g (yX12_manyRoads, cX12_manyRoads, 4, (some .int)) (d + 2) 0 [.ref (g.1 + 119), .int x1] h (some (.int c)) h1 := by
  refine qt_Met.of (plainFor_of_name (by decide)) (Nat.le_of_ble_eq_true rfl) ?_
  have G : qg_i (some (.int c)) h1 ((c, h1)) := ⟨rfl, rfl⟩
  unfold m_X12_manyRoads at E
  refine qt_iconst dX12_manyRoads_0 ci_0 ?_
  refine qt_istore_n (fun v1 => [(2, .int v1), (0, .ref (g.1 + 119)), (1, .int x1)]) dX12_manyRoads_1 rfl (Nat.le_of_ble_eq_true rfl) (fun _ => rfl) E (fun v1 E => ?_)
  refine qt_iconst dX12_manyRoads_2 ci_0 ?_
  refine qt_istore_n (fun v3 => [(3, .int v3), (2, .int v1), (0, .ref (g.1 + 119)), (1, .int x1)]) dX12_manyRoads_3 rfl (Nat.le_of_ble_eq_true rfl) (fun _ => rfl) E (fun v3 E => ?_)
  exact qt_sub _ [2, 3, 1, 0] rfl ((s_X12_manyRoads_b4_loop x1 v1 v3 h E G))
noncomputable def m_X12_isThere (x1 : Int32) (h : qa_M) : Option (Int32 × qa_M) :=
  qbn (m_X12_isSquare (x1 - x1 / (6 : Int32) * (6 : Int32)) (x1 / (6 : Int32)) h) (fun (c9 : Int32) (h9 : qa_M) =>
  qpr (c9 = 0 ∨ c9 = 1) (
  some (c9, h9)))
set_option maxRecDepth 20000 in
theorem c_X12_isThere {l : Launch} {g : qa_G} {d : Nat} (x1 : Int32) (h : qa_M) {c : Int32} {h1 : qa_M} (E : m_X12_isThere x1 h = some (c, h1)) : qt_Met l g (yX12_isThere, cX12_isThere, 2, (some .boolean)) (d + 2) 0 [.ref (g.1 + 119), .int x1] h (some (.int c)) h1 := by
  refine qt_Met.of (plainFor_of_name (by decide)) (Nat.le_of_ble_eq_true rfl) ?_
  have G : qg_i (some (.int c)) h1 ((c, h1)) := ⟨rfl, rfl⟩
  unfold m_X12_isThere at E
  refine qt_aload_n 0 dX12_isThere_0 rfl rfl ?_
  refine qt_iload_n 1 dX12_isThere_1 rfl rfl ?_
  refine qt_bipush dX12_isThere_2 cb_6 ?_
  refine qt_iremK dX12_isThere_4 (by decide) ?_
  refine qt_iload_n 1 dX12_isThere_5 rfl rfl ?_
  refine qt_bipush dX12_isThere_6 cb_6 ?_
  refine qt_idivK dX12_isThere_8 (by decide) ?_
  obtain ⟨c9, h9, e9, E⟩ := qbn_el E
  refine qt_callVi (b2 := 0) [.int (x1 - x1 / (6 : Int32) * (6 : Int32)), .int (x1 / (6 : Int32))] (c_X12_isSquare (x1 - x1 / (6 : Int32) * (6 : Int32)) (x1 / (6 : Int32)) h e9) cv_RX12_165 (wl_119 h) rfl rfl rfl (Nat.le_of_ble_eq_true rfl) (Nat.le_of_ble_eq_true rfl) dX12_isThere_9 ?_
  obtain ⟨z12, E⟩ := qpr_el E
  exact qt_zreturn rfl z12 (Nat.le_of_ble_eq_true rfl) dX12_isThere_12 E G
noncomputable def f_X12_woodsBeside_b41 (x1 : Int32) (x3 : Int32) (s0 : Int32) (s1 : Int32) (h : qa_M) : Option ((Int32 × Int32 × Int32 × qa_M) ⊕ (Int32 × qa_M)) :=
  qbd (s0 + s1) (fun v42 : Int32 =>
  qbd (x3 + (1 : Int32)) (fun v43 : Int32 =>
  some (.inl (x1, v42, v43, h))))
set_option maxRecDepth 20000 in
theorem s_X12_woodsBeside_b41 {l : Launch} {g : qa_G} {d : Nat} {rz : Option Value} {hz : qa_M} (x1 : Int32) (x3 : Int32) (s0 : Int32) (s1 : Int32) (h : qa_M) {z : ((Int32 × Int32 × Int32 × qa_M) ⊕ (Int32 × qa_M))} (E : f_X12_woodsBeside_b41 x1 x3 s0 s1 h = some z) (G : (Sum.elim (fun (sz : Int32 × Int32 × Int32 × qa_M) => qt_At l g (yX12_woodsBeside, cX12_woodsBeside, 4, (some .int)) (d + 3) 0 0 4 [(0, .ref (g.1 + 119)), (1, .int sz.1), (2, .int sz.2.1), (3, .int sz.2.2.1)] [] sz.2.2.2 rz hz) (qg_i rz hz)) z) : qt_At l g (yX12_woodsBeside, cX12_woodsBeside, 4, (some .int)) (d + 3) 0 0 41 [(0, .ref (g.1 + 119)), (1, .int x1), (3, .int x3)] [.int s1, .int s0] h rz hz := by
  unfold f_X12_woodsBeside_b41 at E
  refine qt_iadd dX12_woodsBeside_41 ?_
  refine qt_istore_n (fun v42 => [(2, .int v42), (0, .ref (g.1 + 119)), (1, .int x1), (3, .int x3)]) dX12_woodsBeside_42 rfl (Nat.le_of_ble_eq_true rfl) (fun _ => rfl) E (fun v42 E => ?_)
  refine qt_iinc 3 (fun v43 => [(3, .int v43), (2, .int v42), (0, .ref (g.1 + 119)), (1, .int x1)]) dX12_woodsBeside_43 rfl ci_1 (Nat.le_of_ble_eq_true rfl) (fun _ => rfl) E (fun v43 E => ?_)
  refine qt_goto 4 dX12_woodsBeside_46 (by decide) ?_
  cases E
  exact qt_sub _ [2, 3, 1, 0] rfl (G)
noncomputable def f_X12_woodsBeside_b40 (x1 : Int32) (x3 : Int32) (s0 : Int32) (h : qa_M) : Option ((Int32 × Int32 × Int32 × qa_M) ⊕ (Int32 × qa_M)) :=
  f_X12_woodsBeside_b41 x1 x3 s0 (0 : Int32) h
set_option maxRecDepth 20000 in
theorem s_X12_woodsBeside_b40 {l : Launch} {g : qa_G} {d : Nat} {rz : Option Value} {hz : qa_M} (x1 : Int32) (x3 : Int32) (s0 : Int32) (h : qa_M) {z : ((Int32 × Int32 × Int32 × qa_M) ⊕ (Int32 × qa_M))} (E : f_X12_woodsBeside_b40 x1 x3 s0 h = some z) (G : (Sum.elim (fun (sz : Int32 × Int32 × Int32 × qa_M) => qt_At l g (yX12_woodsBeside, cX12_woodsBeside, 4, (some .int)) (d + 3) 0 0 4 [(0, .ref (g.1 + 119)), (1, .int sz.1), (2, .int sz.2.1), (3, .int sz.2.2.1)] [] sz.2.2.2 rz hz) (qg_i rz hz)) z) : qt_At l g (yX12_woodsBeside, cX12_woodsBeside, 4, (some .int)) (d + 3) 0 0 40 [(0, .ref (g.1 + 119)), (1, .int x1), (3, .int x3)] [.int s0] h rz hz := by
  unfold f_X12_woodsBeside_b40 at E
  refine qt_iconst dX12_woodsBeside_40 ci_0 ?_
  exact qt_sub _ [0, 1, 2] rfl ((s_X12_woodsBeside_b41 x1 x3 s0 (0 : Int32) h E G))
noncomputable def f_X12_woodsBeside_b4 (x1 : Int32) (x2 : Int32) (x3 : Int32) (h : qa_M) : Option ((Int32 × Int32 × Int32 × qa_M) ⊕ (Int32 × qa_M)) :=
  if (36 : Int32) ≤ x3 then (
   qup (some (x2, h)))
  else (
   qbn (m_X12_isThere x3 h) (fun (c13 : Int32) (h13 : qa_M) =>
   if c13 = 0 then (
    f_X12_woodsBeside_b40 x1 x3 x2 h13)
   else (
    qbn (m_X12_apartOf x3 x1 h13) (fun (c21 : Int32) (h21 : qa_M) =>
    if c21 = (1 : Int32) then (
     qbn (m_X12_isWood x3 h21) (fun (c30 : Int32) (h30 : qa_M) =>
     if c30 = 0 then (
      f_X12_woodsBeside_b40 x1 x3 x2 h30)
     else (
      f_X12_woodsBeside_b41 x1 x3 x2 (1 : Int32) h30)))
    else (
     f_X12_woodsBeside_b40 x1 x3 x2 h21)))))
set_option maxRecDepth 20000 in
theorem s_X12_woodsBeside_b4 {l : Launch} {g : qa_G} {d : Nat} {rz : Option Value} {hz : qa_M} (x1 : Int32) (x2 : Int32) (x3 : Int32) (h : qa_M) {z : ((Int32 × Int32 × Int32 × qa_M) ⊕ (Int32 × qa_M))} (E : f_X12_woodsBeside_b4 x1 x2 x3 h = some z) (G : (Sum.elim (fun (sz : Int32 × Int32 × Int32 × qa_M) => qt_At l g (yX12_woodsBeside, cX12_woodsBeside, 4, (some .int)) (d + 3) 0 0 4 [(0, .ref (g.1 + 119)), (1, .int sz.1), (2, .int sz.2.1), (3, .int sz.2.2.1)] [] sz.2.2.2 rz hz) (qg_i rz hz)) z) : qt_At l g (yX12_woodsBeside, cX12_woodsBeside, 4, (some .int)) (d + 3) 0 0 4 [(0, .ref (g.1 + 119)), (1, .int x1), (2, .int x2), (3, .int x3)] [] h rz hz := by
  unfold f_X12_woodsBeside_b4 at E
  refine qt_iload_n 3 dX12_woodsBeside_4 rfl rfl ?_
  refine qt_bipush dX12_woodsBeside_5 cb_36 ?_
  refine qt_icmp_ge 49 dX12_woodsBeside_7 (by decide) E (fun E => ?_) (fun E => ?_)
  · refine qt_iload_n 2 dX12_woodsBeside_49 rfl rfl ?_
    obtain ⟨z0_, E, G⟩ := qup_g E G
    exact qt_ireturn rfl (Nat.le_of_ble_eq_true rfl) dX12_woodsBeside_50 E G
  · refine qt_iload_n 2 dX12_woodsBeside_10 rfl rfl ?_
    refine qt_aload_n 0 dX12_woodsBeside_11 rfl rfl ?_
    refine qt_iload_n 3 dX12_woodsBeside_12 rfl rfl ?_
    obtain ⟨c13, h13, e13, E⟩ := qbn_el E
    refine qt_callVi (b2 := 0) [.int x3] (c_X12_isThere x3 h e13) cv_RX12_187 (wl_119 h) rfl rfl rfl (Nat.le_of_ble_eq_true rfl) (Nat.le_of_ble_eq_true rfl) dX12_woodsBeside_13 ?_
    refine qt_if_eq 40 dX12_woodsBeside_16 (by decide) E (fun E => ?_) (fun E => ?_)
    · exact qt_sub _ [0, 1, 3] rfl ((s_X12_woodsBeside_b40 x1 x3 x2 h13 E G))
    · refine qt_iload_n 3 dX12_woodsBeside_19 rfl rfl ?_
      refine qt_iload_n 1 dX12_woodsBeside_20 rfl rfl ?_
      obtain ⟨c21, h21, e21, E⟩ := qbn_el E
      refine qt_callSi (b2 := 0) [.int x3, .int x1] (c_X12_apartOf x3 x1 h13 e21) cv_RX12_176 rfl (Nat.le_of_ble_eq_true rfl) (Nat.le_of_ble_eq_true rfl) dX12_woodsBeside_21 ?_
      refine qt_iconst dX12_woodsBeside_24 ci_1 ?_
      refine qt_icmp_ne 40 dX12_woodsBeside_25 (by decide) E (fun E => ?_) (fun E => ?_)
      · exact qt_sub _ [0, 1, 3] rfl ((s_X12_woodsBeside_b40 x1 x3 x2 h21 E G))
      · refine qt_aload_n 0 dX12_woodsBeside_28 rfl rfl ?_
        refine qt_iload_n 3 dX12_woodsBeside_29 rfl rfl ?_
        obtain ⟨c30, h30, e30, E⟩ := qbn_el E
        refine qt_callVi (b2 := 0) [.int x3] (c_X12_isWood x3 h21 e30) cv_RX12_183 (wl_119 h21) rfl rfl rfl (Nat.le_of_ble_eq_true rfl) (Nat.le_of_ble_eq_true rfl) dX12_woodsBeside_30 ?_
        refine qt_if_eq 40 dX12_woodsBeside_33 (by decide) E (fun E => ?_) (fun E => ?_)
        · exact qt_sub _ [0, 1, 3] rfl ((s_X12_woodsBeside_b40 x1 x3 x2 h30 E G))
        · refine qt_iconst dX12_woodsBeside_36 ci_1 ?_
          refine qt_goto 41 dX12_woodsBeside_37 (by decide) ?_
          exact qt_sub _ [0, 1, 3] rfl ((s_X12_woodsBeside_b41 x1 x3 x2 (1 : Int32) h30 E G))
noncomputable def f_X12_woodsBeside_b4_loop (x1 : Int32) (x2 : Int32) (x3 : Int32) (h : qa_M) : Option (Int32 × qa_M) := qlp (fun sz : Int32 × Int32 × Int32 × qa_M => f_X12_woodsBeside_b4 sz.1 sz.2.1 sz.2.2.1 sz.2.2.2) (x1, x2, x3, h)
theorem s_X12_woodsBeside_b4_loop {l : Launch} {g : qa_G} {d : Nat} {rz : Option Value} {hz : qa_M} (x1 : Int32) (x2 : Int32) (x3 : Int32) (h : qa_M) {z : (Int32 × qa_M)} (E : f_X12_woodsBeside_b4_loop x1 x2 x3 h = some z) (G : (qg_i rz hz) z) : qt_At l g (yX12_woodsBeside, cX12_woodsBeside, 4, (some .int)) (d + 3) 0 0 4 [(0, .ref (g.1 + 119)), (1, .int x1), (2, .int x2), (3, .int x3)] [] h rz hz :=
  qlp_ind (fun sz : Int32 × Int32 × Int32 × qa_M => qt_At l g (yX12_woodsBeside, cX12_woodsBeside, 4, (some .int)) (d + 3) 0 0 4 [(0, .ref (g.1 + 119)), (1, .int sz.1), (2, .int sz.2.1), (3, .int sz.2.2.1)] [] sz.2.2.2 rz hz) (fun sz E => s_X12_woodsBeside_b4 sz.1 sz.2.1 sz.2.2.1 sz.2.2.2 E G) (fun sz sz2 E ih => s_X12_woodsBeside_b4 sz.1 sz.2.1 sz.2.2.1 sz.2.2.2 E ih) (x1, x2, x3, h) E
noncomputable def m_X12_woodsBeside (x1 : Int32) (h : qa_M) : Option (Int32 × qa_M) :=
  qbd (0 : Int32) (fun v1 : Int32 =>
  qbd (0 : Int32) (fun v3 : Int32 =>
  f_X12_woodsBeside_b4_loop x1 v1 v3 h))
set_option maxRecDepth 20000 in
theorem c_X12_woodsBeside {l : Launch} {g : qa_G} {d : Nat} (x1 : Int32) (h : qa_M) {c : Int32} {h1 : qa_M} (E : m_X12_woodsBeside x1 h = some (c, h1)) : qt_Met l g (yX12_woodsBeside, cX12_woodsBeside, 4, (some .int)) (d + 3) 0 [.ref (g.1 + 119), .int x1] h (some (.int c)) h1 := by
  refine qt_Met.of (plainFor_of_name (by decide)) (Nat.le_of_ble_eq_true rfl) ?_
  have G : qg_i (some (.int c)) h1 ((c, h1)) := ⟨rfl, rfl⟩
  unfold m_X12_woodsBeside at E
  refine qt_iconst dX12_woodsBeside_0 ci_0 ?_
  refine qt_istore_n (fun v1 => [(2, .int v1), (0, .ref (g.1 + 119)), (1, .int x1)]) dX12_woodsBeside_1 rfl (Nat.le_of_ble_eq_true rfl) (fun _ => rfl) E (fun v1 E => ?_)
  refine qt_iconst dX12_woodsBeside_2 ci_0 ?_
  refine qt_istore_n (fun v3 => [(3, .int v3), (2, .int v1), (0, .ref (g.1 + 119)), (1, .int x1)]) dX12_woodsBeside_3 rfl (Nat.le_of_ble_eq_true rfl) (fun _ => rfl) E (fun v3 E => ?_)
  exact qt_sub _ [2, 3, 1, 0] rfl ((s_X12_woodsBeside_b4_loop x1 v1 v3 h E G))
noncomputable def f_X12_asks_b166 (s1 : Int32) (s2 : Int64) (h : qa_M) : Option qa_M :=
  qck s1 7 (
  qbd (qw_J h 149 s1.toNatClampNeg s2) (fun h166 : qa_M =>
  some h166))
set_option maxRecDepth 20000 in
theorem s_X12_asks_b166 {l : Launch} {g : qa_G} {d : Nat} {rz : Option Value} {hz : qa_M} (s1 : Int32) (s2 : Int64) (h : qa_M) {z : qa_M} (E : f_X12_asks_b166 s1 s2 h = some z) (G : (qg_v rz hz) z) : qt_At l g (yX12_asks, cX12_asks, 7, none) (d + 4) 0 0 166 [] [.long s2, .int s1, .ref (g.1 + 149)] h rz hz := by
  unfold f_X12_asks_b166 at E
  refine qt_last (wl_149 h) dX12_asks_166 E (fun h166 E => ?_)
  exact qt_vreturn rfl (Nat.le_of_ble_eq_true rfl) dX12_asks_167 E G
noncomputable def f_X12_asks_b105 (x1 : Int32) (x4 : Int32) (x5 : Int32) (x6 : Int32) (s1 : Int32) (s2 : Int64) (h : qa_M) : Option qa_M :=
  qck s1 7 (
  qbd (qw_J h 149 s1.toNatClampNeg s2) (fun h105 : qa_M =>
  qbn (m_X12_manyRoads x1 h105) (fun (c113 : Int32) (h113 : qa_M) =>
  qck (5 : Int32) 7 (
  qbd (qw_J h113 149 (5 : Int32).toNatClampNeg c113.toInt64) (fun h117 : qa_M =>
  if x5 ≤ x4 then (
   if x6 ≤ x5 then (
    f_X12_asks_b166 (6 : Int32) x6.toInt64 h117)
   else (
    f_X12_asks_b166 (6 : Int32) x5.toInt64 h117))
  else (
   if x6 ≤ x4 then (
    f_X12_asks_b166 (6 : Int32) x6.toInt64 h117)
   else (
    f_X12_asks_b166 (6 : Int32) x4.toInt64 h117)))))))
set_option maxRecDepth 20000 in
theorem s_X12_asks_b105 {l : Launch} {g : qa_G} {d : Nat} {rz : Option Value} {hz : qa_M} (x1 : Int32) (x4 : Int32) (x5 : Int32) (x6 : Int32) (s1 : Int32) (s2 : Int64) (h : qa_M) {z : qa_M} (E : f_X12_asks_b105 x1 x4 x5 x6 s1 s2 h = some z) (G : (qg_v rz hz) z) : qt_At l g (yX12_asks, cX12_asks, 7, none) (d + 4) 0 0 105 [(0, .ref (g.1 + 119)), (1, .int x1), (4, .int x4), (5, .int x5), (6, .int x6)] [.long s2, .int s1, .ref (g.1 + 149)] h rz hz := by
  unfold f_X12_asks_b105 at E
  refine qt_last (wl_149 h) dX12_asks_105 E (fun h105 E => ?_)
  refine qt_aload_n 0 dX12_asks_106 rfl rfl ?_
  refine qt_getS 149 (wl_119 h105) fe_RX12_102 rfl dX12_asks_107 ?_
  refine qt_iconst dX12_asks_110 ci_5 ?_
  refine qt_aload_n 0 dX12_asks_111 rfl rfl ?_
  refine qt_iload_n 1 dX12_asks_112 rfl rfl ?_
  obtain ⟨c113, h113, e113, E⟩ := qbn_el E
  refine qt_callVi (b2 := 0) [.int x1] (c_X12_manyRoads x1 h105 e113) cv_RX12_404 (wl_119 h105) rfl rfl rfl (Nat.le_of_ble_eq_true rfl) (Nat.le_of_ble_eq_true rfl) dX12_asks_113 ?_
  refine qt_i2l dX12_asks_116 ?_
  refine qt_last (wl_149 h113) dX12_asks_117 E (fun h117 E => ?_)
  refine qt_aload_n 0 dX12_asks_118 rfl rfl ?_
  refine qt_getS 149 (wl_119 h117) fe_RX12_102 rfl dX12_asks_119 ?_
  refine qt_bipush dX12_asks_122 cb_6 ?_
  refine qt_iload 2 dX12_asks_124 rfl ?_
  refine qt_iload 3 dX12_asks_126 rfl ?_
  refine qt_icmp_ge 150 dX12_asks_128 (by decide) E (fun E => ?_) (fun E => ?_)
  · refine qt_iload 3 dX12_asks_150 rfl ?_
    refine qt_iload 4 dX12_asks_152 rfl ?_
    refine qt_icmp_ge 163 dX12_asks_154 (by decide) E (fun E => ?_) (fun E => ?_)
    · refine qt_iload 4 dX12_asks_163 rfl ?_
      refine qt_i2l dX12_asks_165 ?_
      exact qt_sub _ [] rfl ((s_X12_asks_b166 (6 : Int32) x6.toInt64 h117 E G))
    · refine qt_iload 3 dX12_asks_157 rfl ?_
      refine qt_i2l dX12_asks_159 ?_
      refine qt_goto 166 dX12_asks_160 (by decide) ?_
      exact qt_sub _ [] rfl ((s_X12_asks_b166 (6 : Int32) x5.toInt64 h117 E G))
  · refine qt_iload 2 dX12_asks_131 rfl ?_
    refine qt_iload 4 dX12_asks_133 rfl ?_
    refine qt_icmp_ge 144 dX12_asks_135 (by decide) E (fun E => ?_) (fun E => ?_)
    · refine qt_iload 4 dX12_asks_144 rfl ?_
      refine qt_i2l dX12_asks_146 ?_
      refine qt_goto 166 dX12_asks_147 (by decide) ?_
      exact qt_sub _ [] rfl ((s_X12_asks_b166 (6 : Int32) x6.toInt64 h117 E G))
    · refine qt_iload 2 dX12_asks_138 rfl ?_
      refine qt_i2l dX12_asks_140 ?_
      refine qt_goto 166 dX12_asks_141 (by decide) ?_
      exact qt_sub _ [] rfl ((s_X12_asks_b166 (6 : Int32) x4.toInt64 h117 E G))
noncomputable def f_X12_asks_b20 (x1 : Int32) (x2 : Int32) (x3 : Int32) (s0 : Int32) (h : qa_M) : Option qa_M :=
  qbd s0 (fun v20 : Int32 =>
  qck (0 : Int32) 8 (
  qbd (((h.1 120 (0 : Int32).toNatClampNeg) - (1 : Int32)) - x2) (fun v32 : Int32 =>
  qck (1 : Int32) 8 (
  qbd (((h.1 120 (1 : Int32).toNatClampNeg) - (1 : Int32)) - x3) (fun v44 : Int32 =>
  qck (0 : Int32) 7 (
  qbd (qw_J h 149 (0 : Int32).toNatClampNeg x2.toInt64) (fun h53 : qa_M =>
  qck (1 : Int32) 7 (
  qbd (qw_J h53 149 (1 : Int32).toNatClampNeg x3.toInt64) (fun h61 : qa_M =>
  qbn (m_X12_woodsBeside x1 h61) (fun (c69 : Int32) (h69 : qa_M) =>
  qck (2 : Int32) 7 (
  qbd (qw_J h69 149 (2 : Int32).toNatClampNeg c69.toInt64) (fun h73 : qa_M =>
  qbn (m_X12_manySee x1 h73) (fun (c81 : Int32) (h81 : qa_M) =>
  qck (3 : Int32) 7 (
  qbd (qw_J h81 149 (3 : Int32).toNatClampNeg c81.toInt64) (fun h85 : qa_M =>
  qbn (m_X12_hillOn x1 h85) (fun (c93 : Int32) (h93 : qa_M) =>
  if c93 = (-1 : Int32) then (
   f_X12_asks_b105 x1 v20 v32 v44 (4 : Int32) (0 : Int64) h93)
  else (
   f_X12_asks_b105 x1 v20 v32 v44 (4 : Int32) (1 : Int64) h93)))))))))))))))))
set_option maxRecDepth 20000 in
theorem s_X12_asks_b20 {l : Launch} {g : qa_G} {d : Nat} {rz : Option Value} {hz : qa_M} (x1 : Int32) (x2 : Int32) (x3 : Int32) (s0 : Int32) (h : qa_M) {z : qa_M} (E : f_X12_asks_b20 x1 x2 x3 s0 h = some z) (G : (qg_v rz hz) z) : qt_At l g (yX12_asks, cX12_asks, 7, none) (d + 4) 0 0 20 [(0, .ref (g.1 + 119)), (1, .int x1), (2, .int x2), (3, .int x3)] [.int s0] h rz hz := by
  unfold f_X12_asks_b20 at E
  refine qt_istore (fun v20 => [(4, .int v20), (0, .ref (g.1 + 119)), (1, .int x1), (2, .int x2), (3, .int x3)]) dX12_asks_20 (Nat.le_of_ble_eq_true rfl) (fun _ => rfl) E (fun v20 E => ?_)
  refine qt_aload_n 1 dX12_asks_22 rfl rfl ?_
  refine qt_getS 120 (wl_119 h) fe_RX12_7 rfl dX12_asks_23 ?_
  refine qt_iconst dX12_asks_26 ci_0 ?_
  refine qt_iald (wl_120 h) dX12_asks_27 E (fun E => ?_)
  refine qt_iconst dX12_asks_28 ci_1 ?_
  refine qt_isub dX12_asks_29 ?_
  refine qt_iload_n 3 dX12_asks_30 rfl rfl ?_
  refine qt_isub dX12_asks_31 ?_
  refine qt_istore (fun v32 => [(5, .int v32), (4, .int v20), (0, .ref (g.1 + 119)), (1, .int x1), (2, .int x2), (3, .int x3)]) dX12_asks_32 (Nat.le_of_ble_eq_true rfl) (fun _ => rfl) E (fun v32 E => ?_)
  refine qt_aload_n 2 dX12_asks_34 rfl rfl ?_
  refine qt_getS 120 (wl_119 h) fe_RX12_7 rfl dX12_asks_35 ?_
  refine qt_iconst dX12_asks_38 ci_1 ?_
  refine qt_iald (wl_120 h) dX12_asks_39 E (fun E => ?_)
  refine qt_iconst dX12_asks_40 ci_1 ?_
  refine qt_isub dX12_asks_41 ?_
  refine qt_iload_n 5 dX12_asks_42 rfl rfl ?_
  refine qt_isub dX12_asks_43 ?_
  refine qt_istore (fun v44 => [(6, .int v44), (5, .int v32), (4, .int v20), (0, .ref (g.1 + 119)), (1, .int x1), (2, .int x2), (3, .int x3)]) dX12_asks_44 (Nat.le_of_ble_eq_true rfl) (fun _ => rfl) E (fun v44 E => ?_)
  refine qt_aload_n 3 dX12_asks_46 rfl rfl ?_
  refine qt_getS 149 (wl_119 h) fe_RX12_102 rfl dX12_asks_47 ?_
  refine qt_iconst dX12_asks_50 ci_0 ?_
  refine qt_iload_n 5 dX12_asks_51 rfl rfl ?_
  refine qt_i2l dX12_asks_52 ?_
  refine qt_last (wl_149 h) dX12_asks_53 E (fun h53 E => ?_)
  refine qt_aload_n 3 dX12_asks_54 rfl rfl ?_
  refine qt_getS 149 (wl_119 h53) fe_RX12_102 rfl dX12_asks_55 ?_
  refine qt_iconst dX12_asks_58 ci_1 ?_
  refine qt_iload_n 6 dX12_asks_59 rfl rfl ?_
  refine qt_i2l dX12_asks_60 ?_
  refine qt_last (wl_149 h53) dX12_asks_61 E (fun h61 E => ?_)
  refine qt_aload_n 3 dX12_asks_62 rfl rfl ?_
  refine qt_getS 149 (wl_119 h61) fe_RX12_102 rfl dX12_asks_63 ?_
  refine qt_iconst dX12_asks_66 ci_2 ?_
  refine qt_aload_n 3 dX12_asks_67 rfl rfl ?_
  refine qt_iload_n 4 dX12_asks_68 rfl rfl ?_
  obtain ⟨c69, h69, e69, E⟩ := qbn_el E
  refine qt_callVi (b2 := 0) [.int x1] (c_X12_woodsBeside x1 h61 e69) cv_RX12_398 (wl_119 h61) rfl rfl rfl (Nat.le_of_ble_eq_true rfl) (Nat.le_of_ble_eq_true rfl) dX12_asks_69 ?_
  refine qt_i2l dX12_asks_72 ?_
  refine qt_last (wl_149 h69) dX12_asks_73 E (fun h73 E => ?_)
  refine qt_aload_n 3 dX12_asks_74 rfl rfl ?_
  refine qt_getS 149 (wl_119 h73) fe_RX12_102 rfl dX12_asks_75 ?_
  refine qt_iconst dX12_asks_78 ci_3 ?_
  refine qt_aload_n 3 dX12_asks_79 rfl rfl ?_
  refine qt_iload_n 4 dX12_asks_80 rfl rfl ?_
  obtain ⟨c81, h81, e81, E⟩ := qbn_el E
  refine qt_callVi (b2 := 0) [.int x1] (c_X12_manySee x1 h73 e81) cv_RX12_401 (wl_119 h73) rfl rfl rfl (Nat.le_of_ble_eq_true rfl) (Nat.le_of_ble_eq_true rfl) dX12_asks_81 ?_
  refine qt_i2l dX12_asks_84 ?_
  refine qt_last (wl_149 h81) dX12_asks_85 E (fun h85 E => ?_)
  refine qt_aload_n 3 dX12_asks_86 rfl rfl ?_
  refine qt_getS 149 (wl_119 h85) fe_RX12_102 rfl dX12_asks_87 ?_
  refine qt_iconst dX12_asks_90 ci_4 ?_
  refine qt_aload_n 3 dX12_asks_91 rfl rfl ?_
  refine qt_iload_n 4 dX12_asks_92 rfl rfl ?_
  obtain ⟨c93, h93, e93, E⟩ := qbn_el E
  refine qt_callVi (b2 := 0) [.int x1] (c_X12_hillOn x1 h85 e93) cv_RX12_169 (wl_119 h85) rfl rfl rfl (Nat.le_of_ble_eq_true rfl) (Nat.le_of_ble_eq_true rfl) dX12_asks_93 ?_
  refine qt_iconst dX12_asks_96 ci_m1 ?_
  refine qt_icmp_ne 104 dX12_asks_97 (by decide) E (fun E => ?_) (fun E => ?_)
  · refine qt_lconst dX12_asks_104 cl_1 ?_
    exact qt_sub _ [3, 4, 2, 1, 0] rfl ((s_X12_asks_b105 x1 v20 v32 v44 (4 : Int32) (1 : Int64) h93 E G))
  · refine qt_lconst dX12_asks_100 cl_0 ?_
    refine qt_goto 105 dX12_asks_101 (by decide) ?_
    exact qt_sub _ [3, 4, 2, 1, 0] rfl ((s_X12_asks_b105 x1 v20 v32 v44 (4 : Int32) (0 : Int64) h93 E G))
noncomputable def m_X12_asks (x1 : Int32) (h : qa_M) : Option qa_M :=
  qbd (x1 - x1 / (6 : Int32) * (6 : Int32)) (fun v4 : Int32 =>
  qbd (x1 / (6 : Int32)) (fun v9 : Int32 =>
  if v9 ≤ v4 then (
   f_X12_asks_b20 x1 v4 v9 v9 h)
  else (
   f_X12_asks_b20 x1 v4 v9 v4 h)))
set_option maxRecDepth 20000 in
theorem c_X12_asks {l : Launch} {g : qa_G} {d : Nat} (x1 : Int32) (h : qa_M) {h1 : qa_M} (E : m_X12_asks x1 h = some h1) : qt_Met l g (yX12_asks, cX12_asks, 7, none) (d + 4) 0 [.ref (g.1 + 119), .int x1] h none h1 := by
  refine qt_Met.of (plainFor_of_name (by decide)) (Nat.le_of_ble_eq_true rfl) ?_
  have G : qg_v none h1 (h1) := ⟨rfl, rfl⟩
  unfold m_X12_asks at E
  refine qt_iload_n 1 dX12_asks_0 rfl rfl ?_
  refine qt_bipush dX12_asks_1 cb_6 ?_
  refine qt_iremK dX12_asks_3 (by decide) ?_
  refine qt_istore_n (fun v4 => [(2, .int v4), (0, .ref (g.1 + 119)), (1, .int x1)]) dX12_asks_4 rfl (Nat.le_of_ble_eq_true rfl) (fun _ => rfl) E (fun v4 E => ?_)
  refine qt_iload_n 2 dX12_asks_5 rfl rfl ?_
  refine qt_bipush dX12_asks_6 cb_6 ?_
  refine qt_idivK dX12_asks_8 (by decide) ?_
  refine qt_istore_n (fun v9 => [(3, .int v9), (2, .int v4), (0, .ref (g.1 + 119)), (1, .int x1)]) dX12_asks_9 rfl (Nat.le_of_ble_eq_true rfl) (fun _ => rfl) E (fun v9 E => ?_)
  refine qt_iload_n 1 dX12_asks_10 rfl rfl ?_
  refine qt_iload_n 0 dX12_asks_11 rfl rfl ?_
  refine qt_icmp_ge 19 dX12_asks_12 (by decide) E (fun E => ?_) (fun E => ?_)
  · refine qt_iload_n 0 dX12_asks_19 rfl rfl ?_
    exact qt_sub _ [2, 3, 1, 0] rfl ((s_X12_asks_b20 x1 v4 v9 v9 h E G))
  · refine qt_iload_n 1 dX12_asks_15 rfl rfl ?_
    refine qt_goto 20 dX12_asks_16 (by decide) ?_
    exact qt_sub _ [2, 3, 1, 0] rfl ((s_X12_asks_b20 x1 v4 v9 v4 h E G))
noncomputable def m_X12_truth (x0 : Int32) (h : qa_M) : Option (Int64 × qa_M) :=
  if x0 = 0 then (
   some ((0 : Int64), h))
  else (
   some ((1 : Int64), h))
set_option maxRecDepth 20000 in
theorem c_X12_truth {l : Launch} {g : qa_G} {d : Nat} (x0 : Int32) (h : qa_M) {c : Int64} {h1 : qa_M} (E : m_X12_truth x0 h = some (c, h1)) : qt_Met l g (yX12_truth, cX12_truth, 1, (some .long)) d 0 [.int x0] h (some (.long c)) h1 := by
  refine qt_Met.of (plainFor_of_name (by decide)) (Nat.le_of_ble_eq_true rfl) ?_
  have G : qg_l (some (.long c)) h1 ((c, h1)) := ⟨rfl, rfl⟩
  unfold m_X12_truth at E
  refine qt_iload_n 0 dX12_truth_0 rfl rfl ?_
  refine qt_if_eq 8 dX12_truth_1 (by decide) E (fun E => ?_) (fun E => ?_)
  · refine qt_lconst dX12_truth_8 cl_0 ?_
    exact qt_lreturn rfl (Nat.le_of_ble_eq_true rfl) dX12_truth_9 E G
  · refine qt_lconst dX12_truth_4 cl_1 ?_
    refine qt_goto 9 dX12_truth_5 (by decide) ?_
    exact qt_lreturn rfl (Nat.le_of_ble_eq_true rfl) dX12_truth_9 E G
noncomputable def f_X12_both_b105 (s0 : Int32) (h : qa_M) : Option (Int64 × qa_M) :=
  qbn (m_X12_truth s0 h) (fun (c105 : Int64) (h105 : qa_M) =>
  some (c105, h105))
set_option maxRecDepth 20000 in
theorem s_X12_both_b105 {l : Launch} {g : qa_G} {d : Nat} {rz : Option Value} {hz : qa_M} (s0 : Int32) (h : qa_M) {z : (Int64 × qa_M)} (E : f_X12_both_b105 s0 h = some z) (G : (qg_l rz hz) z) : qt_At l g (yX12_both, cX12_both, 5, (some .long)) (d + 1) 0 0 105 [] [.int s0] h rz hz := by
  unfold f_X12_both_b105 at E
  obtain ⟨c105, h105, e105, E⟩ := qbn_el E
  refine qt_callSl (b2 := 0) [.int s0] (c_X12_truth s0 h e105) cv_RX12_388 rfl (Nat.le_of_ble_eq_true rfl) (Nat.le_of_ble_eq_true rfl) dX12_both_105 ?_
  exact qt_lreturn rfl (Nat.le_of_ble_eq_true rfl) dX12_both_108 E G
noncomputable def f_X12_both_b120 (s0 : Int32) (h : qa_M) : Option (Int64 × qa_M) :=
  qbn (m_X12_truth s0 h) (fun (c120 : Int64) (h120 : qa_M) =>
  some (c120, h120))
set_option maxRecDepth 20000 in
theorem s_X12_both_b120 {l : Launch} {g : qa_G} {d : Nat} {rz : Option Value} {hz : qa_M} (s0 : Int32) (h : qa_M) {z : (Int64 × qa_M)} (E : f_X12_both_b120 s0 h = some z) (G : (qg_l rz hz) z) : qt_At l g (yX12_both, cX12_both, 5, (some .long)) (d + 1) 0 0 120 [] [.int s0] h rz hz := by
  unfold f_X12_both_b120 at E
  obtain ⟨c120, h120, e120, E⟩ := qbn_el E
  refine qt_callSl (b2 := 0) [.int s0] (c_X12_truth s0 h e120) cv_RX12_388 rfl (Nat.le_of_ble_eq_true rfl) (Nat.le_of_ble_eq_true rfl) dX12_both_120 ?_
  exact qt_lreturn rfl (Nat.le_of_ble_eq_true rfl) dX12_both_123 E G
noncomputable def f_X12_both_b135 (s0 : Int32) (h : qa_M) : Option (Int64 × qa_M) :=
  qbn (m_X12_truth s0 h) (fun (c135 : Int64) (h135 : qa_M) =>
  some (c135, h135))
set_option maxRecDepth 20000 in
theorem s_X12_both_b135 {l : Launch} {g : qa_G} {d : Nat} {rz : Option Value} {hz : qa_M} (s0 : Int32) (h : qa_M) {z : (Int64 × qa_M)} (E : f_X12_both_b135 s0 h = some z) (G : (qg_l rz hz) z) : qt_At l g (yX12_both, cX12_both, 5, (some .long)) (d + 1) 0 0 135 [] [.int s0] h rz hz := by
  unfold f_X12_both_b135 at E
  obtain ⟨c135, h135, e135, E⟩ := qbn_el E
  refine qt_callSl (b2 := 0) [.int s0] (c_X12_truth s0 h e135) cv_RX12_388 rfl (Nat.le_of_ble_eq_true rfl) (Nat.le_of_ble_eq_true rfl) dX12_both_135 ?_
  exact qt_lreturn rfl (Nat.le_of_ble_eq_true rfl) dX12_both_138 E G
noncomputable def f_X12_both_b150 (s0 : Int32) (h : qa_M) : Option (Int64 × qa_M) :=
  qbn (m_X12_truth s0 h) (fun (c150 : Int64) (h150 : qa_M) =>
  some (c150, h150))
set_option maxRecDepth 20000 in
theorem s_X12_both_b150 {l : Launch} {g : qa_G} {d : Nat} {rz : Option Value} {hz : qa_M} (s0 : Int32) (h : qa_M) {z : (Int64 × qa_M)} (E : f_X12_both_b150 s0 h = some z) (G : (qg_l rz hz) z) : qt_At l g (yX12_both, cX12_both, 5, (some .long)) (d + 1) 0 0 150 [] [.int s0] h rz hz := by
  unfold f_X12_both_b150 at E
  obtain ⟨c150, h150, e150, E⟩ := qbn_el E
  refine qt_callSl (b2 := 0) [.int s0] (c_X12_truth s0 h e150) cv_RX12_388 rfl (Nat.le_of_ble_eq_true rfl) (Nat.le_of_ble_eq_true rfl) dX12_both_150 ?_
  exact qt_lreturn rfl (Nat.le_of_ble_eq_true rfl) dX12_both_153 E G
noncomputable def f_X12_both_b165 (s0 : Int32) (h : qa_M) : Option (Int64 × qa_M) :=
  qbn (m_X12_truth s0 h) (fun (c165 : Int64) (h165 : qa_M) =>
  some (c165, h165))
set_option maxRecDepth 20000 in
theorem s_X12_both_b165 {l : Launch} {g : qa_G} {d : Nat} {rz : Option Value} {hz : qa_M} (s0 : Int32) (h : qa_M) {z : (Int64 × qa_M)} (E : f_X12_both_b165 s0 h = some z) (G : (qg_l rz hz) z) : qt_At l g (yX12_both, cX12_both, 5, (some .long)) (d + 1) 0 0 165 [] [.int s0] h rz hz := by
  unfold f_X12_both_b165 at E
  obtain ⟨c165, h165, e165, E⟩ := qbn_el E
  refine qt_callSl (b2 := 0) [.int s0] (c_X12_truth s0 h e165) cv_RX12_388 rfl (Nat.le_of_ble_eq_true rfl) (Nat.le_of_ble_eq_true rfl) dX12_both_165 ?_
  exact qt_lreturn rfl (Nat.le_of_ble_eq_true rfl) dX12_both_168 E G
noncomputable def f_X12_both_b173 (x1 : Int64) (x3 : Int64) (h : qa_M) : Option (Int64 × qa_M) :=
  some ((x1 ||| x3), h)
set_option maxRecDepth 20000 in
theorem s_X12_both_b173 {l : Launch} {g : qa_G} {d : Nat} {rz : Option Value} {hz : qa_M} (x1 : Int64) (x3 : Int64) (h : qa_M) {z : (Int64 × qa_M)} (E : f_X12_both_b173 x1 x3 h = some z) (G : (qg_l rz hz) z) : qt_At l g (yX12_both, cX12_both, 5, (some .long)) (d + 1) 0 0 173 [(1, .long x1), (3, .long x3)] [] h rz hz := by
  unfold f_X12_both_b173 at E
  refine qt_lload_n 0 dX12_both_173 rfl rfl ?_
  refine qt_lload_n 1 dX12_both_174 rfl rfl ?_
  refine qt_lor dX12_both_175 ?_
  exact qt_lreturn rfl (Nat.le_of_ble_eq_true rfl) dX12_both_176 E G
noncomputable def m_X12_both (x0 : Int32) (x1 : Int64) (x3 : Int64) (h : qa_M) : Option (Int64 × qa_M) :=
  if x0 = (2 : Int32) then (
   some ((x1 + x3), h))
  else (
  if x0 = (3 : Int32) then (
   some ((x1 - x3), h))
  else (
  if x0 = (4 : Int32) then (
   if x3 ≤ x1 then (
    f_X12_both_b105 (0 : Int32) h)
   else (
    f_X12_both_b105 (1 : Int32) h))
  else (
  if x0 = (5 : Int32) then (
   if x3 < x1 then (
    f_X12_both_b120 (0 : Int32) h)
   else (
    f_X12_both_b120 (1 : Int32) h))
  else (
  if x0 = (6 : Int32) then (
   if x1 = x3 then (
    f_X12_both_b135 (1 : Int32) h)
   else (
    f_X12_both_b135 (0 : Int32) h))
  else (
  if x0 = (7 : Int32) then (
   if x1 < x3 then (
    f_X12_both_b150 (0 : Int32) h)
   else (
    f_X12_both_b150 (1 : Int32) h))
  else (
  if x0 = (8 : Int32) then (
   if x1 ≤ x3 then (
    f_X12_both_b165 (0 : Int32) h)
   else (
    f_X12_both_b165 (1 : Int32) h))
  else (
  if x0 = (9 : Int32) then (
   f_X12_both_b173 x1 x3 h)
  else (
  if x0 = (10 : Int32) then (
   some ((x1 &&& x3), h))
  else (
  if x0 = (11 : Int32) then (
   f_X12_both_b173 x1 x3 h)
  else (
  if x0 = (12 : Int32) then (
   f_X12_both_b173 x1 x3 h)
  else (
  if x0 = (13 : Int32) then (
   some ((x1 * x3), h))
  else (
  if x0 = (14 : Int32) then (
   if x3 = (0 : Int64) then (
    some ((0 : Int64), h))
   else (
    qnz (x3 = 0) (
    some ((x1 / x3), h))))
  else (
  f_X12_both_b173 x1 x3 h)))))))))))))
set_option maxRecDepth 20000 in
theorem c_X12_both {l : Launch} {g : qa_G} {d : Nat} (x0 : Int32) (x1 : Int64) (x3 : Int64) (h : qa_M) {c : Int64} {h1 : qa_M} (E : m_X12_both x0 x1 x3 h = some (c, h1)) : qt_Met l g (yX12_both, cX12_both, 5, (some .long)) (d + 1) 0 [.int x0, .long x1, .long x3] h (some (.long c)) h1 := by
  refine qt_Met.of (plainFor_of_name (by decide)) (Nat.le_of_ble_eq_true rfl) ?_
  have G : qg_l (some (.long c)) h1 ((c, h1)) := ⟨rfl, rfl⟩
  unfold m_X12_both at E
  refine qt_iload_n 0 dX12_both_0 rfl rfl ?_
  by_cases c1_0 : x0 = (2 : Int32)
  · replace E := qif_t c1_0 E
    refine qt_tabIn (off := 67) 68 dX12_both_1 c1_0 (by decide) (by decide) rfl (by decide) ?_
    refine qt_lload_n 1 dX12_both_68 rfl rfl ?_
    refine qt_lload_n 2 dX12_both_69 rfl rfl ?_
    refine qt_ladd dX12_both_70 ?_
    exact qt_lreturn rfl (Nat.le_of_ble_eq_true rfl) dX12_both_71 E G
  replace E := qif_f c1_0 E
  by_cases c1_1 : x0 = (3 : Int32)
  · replace E := qif_t c1_1 E
    refine qt_tabIn (off := 71) 72 dX12_both_1 c1_1 (by decide) (by decide) rfl (by decide) ?_
    refine qt_lload_n 1 dX12_both_72 rfl rfl ?_
    refine qt_lload_n 2 dX12_both_73 rfl rfl ?_
    refine qt_lsub dX12_both_74 ?_
    exact qt_lreturn rfl (Nat.le_of_ble_eq_true rfl) dX12_both_75 E G
  replace E := qif_f c1_1 E
  by_cases c1_2 : x0 = (4 : Int32)
  · replace E := qif_t c1_2 E
    refine qt_tabIn (off := 93) 94 dX12_both_1 c1_2 (by decide) (by decide) rfl (by decide) ?_
    refine qt_lload_n 1 dX12_both_94 rfl rfl ?_
    refine qt_lload_n 2 dX12_both_95 rfl rfl ?_
    refine qt_lc_ge 104 dX12_both_96 dX12_both_97 (by decide) E (fun E => ?_) (fun E => ?_)
    · refine qt_iconst dX12_both_104 ci_0 ?_
      exact qt_sub _ [] rfl ((s_X12_both_b105 (0 : Int32) h E G))
    · refine qt_iconst dX12_both_100 ci_1 ?_
      refine qt_goto 105 dX12_both_101 (by decide) ?_
      exact qt_sub _ [] rfl ((s_X12_both_b105 (1 : Int32) h E G))
  replace E := qif_f c1_2 E
  by_cases c1_3 : x0 = (5 : Int32)
  · replace E := qif_t c1_3 E
    refine qt_tabIn (off := 108) 109 dX12_both_1 c1_3 (by decide) (by decide) rfl (by decide) ?_
    refine qt_lload_n 1 dX12_both_109 rfl rfl ?_
    refine qt_lload_n 2 dX12_both_110 rfl rfl ?_
    refine qt_lc_gt 119 dX12_both_111 dX12_both_112 (by decide) E (fun E => ?_) (fun E => ?_)
    · refine qt_iconst dX12_both_119 ci_0 ?_
      exact qt_sub _ [] rfl ((s_X12_both_b120 (0 : Int32) h E G))
    · refine qt_iconst dX12_both_115 ci_1 ?_
      refine qt_goto 120 dX12_both_116 (by decide) ?_
      exact qt_sub _ [] rfl ((s_X12_both_b120 (1 : Int32) h E G))
  replace E := qif_f c1_3 E
  by_cases c1_4 : x0 = (6 : Int32)
  · replace E := qif_t c1_4 E
    refine qt_tabIn (off := 123) 124 dX12_both_1 c1_4 (by decide) (by decide) rfl (by decide) ?_
    refine qt_lload_n 1 dX12_both_124 rfl rfl ?_
    refine qt_lload_n 2 dX12_both_125 rfl rfl ?_
    refine qt_lc_ne 134 dX12_both_126 dX12_both_127 (by decide) E (fun E => ?_) (fun E => ?_)
    · refine qt_iconst dX12_both_134 ci_0 ?_
      exact qt_sub _ [] rfl ((s_X12_both_b135 (0 : Int32) h E G))
    · refine qt_iconst dX12_both_130 ci_1 ?_
      refine qt_goto 135 dX12_both_131 (by decide) ?_
      exact qt_sub _ [] rfl ((s_X12_both_b135 (1 : Int32) h E G))
  replace E := qif_f c1_4 E
  by_cases c1_5 : x0 = (7 : Int32)
  · replace E := qif_t c1_5 E
    refine qt_tabIn (off := 138) 139 dX12_both_1 c1_5 (by decide) (by decide) rfl (by decide) ?_
    refine qt_lload_n 1 dX12_both_139 rfl rfl ?_
    refine qt_lload_n 2 dX12_both_140 rfl rfl ?_
    refine qt_lc_lt 149 dX12_both_141 dX12_both_142 (by decide) E (fun E => ?_) (fun E => ?_)
    · refine qt_iconst dX12_both_149 ci_0 ?_
      exact qt_sub _ [] rfl ((s_X12_both_b150 (0 : Int32) h E G))
    · refine qt_iconst dX12_both_145 ci_1 ?_
      refine qt_goto 150 dX12_both_146 (by decide) ?_
      exact qt_sub _ [] rfl ((s_X12_both_b150 (1 : Int32) h E G))
  replace E := qif_f c1_5 E
  by_cases c1_6 : x0 = (8 : Int32)
  · replace E := qif_t c1_6 E
    refine qt_tabIn (off := 153) 154 dX12_both_1 c1_6 (by decide) (by decide) rfl (by decide) ?_
    refine qt_lload_n 1 dX12_both_154 rfl rfl ?_
    refine qt_lload_n 2 dX12_both_155 rfl rfl ?_
    refine qt_lc_le 164 dX12_both_156 dX12_both_157 (by decide) E (fun E => ?_) (fun E => ?_)
    · refine qt_iconst dX12_both_164 ci_0 ?_
      exact qt_sub _ [] rfl ((s_X12_both_b165 (0 : Int32) h E G))
    · refine qt_iconst dX12_both_160 ci_1 ?_
      refine qt_goto 165 dX12_both_161 (by decide) ?_
      exact qt_sub _ [] rfl ((s_X12_both_b165 (1 : Int32) h E G))
  replace E := qif_f c1_6 E
  by_cases c1_7 : x0 = (9 : Int32)
  · replace E := qif_t c1_7 E
    refine qt_tabIn (off := 172) 173 dX12_both_1 c1_7 (by decide) (by decide) rfl (by decide) ?_
    exact qt_sub _ [1, 2] rfl ((s_X12_both_b173 x1 x3 h E G))
  replace E := qif_f c1_7 E
  by_cases c1_8 : x0 = (10 : Int32)
  · replace E := qif_t c1_8 E
    refine qt_tabIn (off := 168) 169 dX12_both_1 c1_8 (by decide) (by decide) rfl (by decide) ?_
    refine qt_lload_n 1 dX12_both_169 rfl rfl ?_
    refine qt_lload_n 2 dX12_both_170 rfl rfl ?_
    refine qt_land dX12_both_171 ?_
    exact qt_lreturn rfl (Nat.le_of_ble_eq_true rfl) dX12_both_172 E G
  replace E := qif_f c1_8 E
  by_cases c1_9 : x0 = (11 : Int32)
  · replace E := qif_t c1_9 E
    refine qt_tabIn (off := 172) 173 dX12_both_1 c1_9 (by decide) (by decide) rfl (by decide) ?_
    exact qt_sub _ [1, 2] rfl ((s_X12_both_b173 x1 x3 h E G))
  replace E := qif_f c1_9 E
  by_cases c1_10 : x0 = (12 : Int32)
  · replace E := qif_t c1_10 E
    refine qt_tabIn (off := 172) 173 dX12_both_1 c1_10 (by decide) (by decide) rfl (by decide) ?_
    exact qt_sub _ [1, 2] rfl ((s_X12_both_b173 x1 x3 h E G))
  replace E := qif_f c1_10 E
  by_cases c1_11 : x0 = (13 : Int32)
  · replace E := qif_t c1_11 E
    refine qt_tabIn (off := 75) 76 dX12_both_1 c1_11 (by decide) (by decide) rfl (by decide) ?_
    refine qt_lload_n 1 dX12_both_76 rfl rfl ?_
    refine qt_lload_n 2 dX12_both_77 rfl rfl ?_
    refine qt_lmul dX12_both_78 ?_
    exact qt_lreturn rfl (Nat.le_of_ble_eq_true rfl) dX12_both_79 E G
  replace E := qif_f c1_11 E
  by_cases c1_12 : x0 = (14 : Int32)
  · replace E := qif_t c1_12 E
    refine qt_tabIn (off := 79) 80 dX12_both_1 c1_12 (by decide) (by decide) rfl (by decide) ?_
    refine qt_lload_n 2 dX12_both_80 rfl rfl ?_
    refine qt_lconst dX12_both_81 cl_0 ?_
    refine qt_lc_ne 90 dX12_both_82 dX12_both_83 (by decide) E (fun E => ?_) (fun E => ?_)
    · refine qt_lload_n 1 dX12_both_90 rfl rfl ?_
      refine qt_lload_n 2 dX12_both_91 rfl rfl ?_
      refine qt_ldiv dX12_both_92 E (fun E => ?_)
      exact qt_lreturn rfl (Nat.le_of_ble_eq_true rfl) dX12_both_93 E G
    · refine qt_lconst dX12_both_86 cl_0 ?_
      refine qt_goto 93 dX12_both_87 (by decide) ?_
      exact qt_lreturn rfl (Nat.le_of_ble_eq_true rfl) dX12_both_93 E G
  replace E := qif_f c1_12 E
  have e1_0 : (x0 : Int32).toInt ≠ 2 := fun q => c1_0 (Int32.toInt_inj.mp (q.trans (by decide)))
  have e1_1 : (x0 : Int32).toInt ≠ 3 := fun q => c1_1 (Int32.toInt_inj.mp (q.trans (by decide)))
  have e1_2 : (x0 : Int32).toInt ≠ 4 := fun q => c1_2 (Int32.toInt_inj.mp (q.trans (by decide)))
  have e1_3 : (x0 : Int32).toInt ≠ 5 := fun q => c1_3 (Int32.toInt_inj.mp (q.trans (by decide)))
  have e1_4 : (x0 : Int32).toInt ≠ 6 := fun q => c1_4 (Int32.toInt_inj.mp (q.trans (by decide)))
  have e1_5 : (x0 : Int32).toInt ≠ 7 := fun q => c1_5 (Int32.toInt_inj.mp (q.trans (by decide)))
  have e1_6 : (x0 : Int32).toInt ≠ 8 := fun q => c1_6 (Int32.toInt_inj.mp (q.trans (by decide)))
  have e1_7 : (x0 : Int32).toInt ≠ 9 := fun q => c1_7 (Int32.toInt_inj.mp (q.trans (by decide)))
  have e1_8 : (x0 : Int32).toInt ≠ 10 := fun q => c1_8 (Int32.toInt_inj.mp (q.trans (by decide)))
  have e1_9 : (x0 : Int32).toInt ≠ 11 := fun q => c1_9 (Int32.toInt_inj.mp (q.trans (by decide)))
  have e1_10 : (x0 : Int32).toInt ≠ 12 := fun q => c1_10 (Int32.toInt_inj.mp (q.trans (by decide)))
  have e1_11 : (x0 : Int32).toInt ≠ 13 := fun q => c1_11 (Int32.toInt_inj.mp (q.trans (by decide)))
  have e1_12 : (x0 : Int32).toInt ≠ 14 := fun q => c1_12 (Int32.toInt_inj.mp (q.trans (by decide)))
  refine qt_tabOut 173 dX12_both_1 (by omega) (by decide) ?_
  exact qt_sub _ [1, 2] rfl ((s_X12_both_b173 x1 x3 h E G))
noncomputable def f_X12_answer_b153 (h : qa_M) : Option (Int64 × qa_M) :=
  qck (0 : Int32) 300 (
  some (h.2.1 150 (0 : Int32).toNatClampNeg, h))
set_option maxRecDepth 20000 in
theorem s_X12_answer_b153 {l : Launch} {g : qa_G} {d : Nat} {rz : Option Value} {hz : qa_M} (h : qa_M) {z : (Int64 × qa_M)} (E : f_X12_answer_b153 h = some z) (G : (qg_l rz hz) z) : qt_At l g (yX12_answer, cX12_answer, 8, (some .long)) (d + 2) 0 0 153 [(0, .ref (g.1 + 119))] [] h rz hz := by
  unfold f_X12_answer_b153 at E
  refine qt_aload_n 0 dX12_answer_153 rfl rfl ?_
  refine qt_getS 150 (wl_119 h) fe_RX12_106 rfl dX12_answer_154 ?_
  refine qt_iconst dX12_answer_157 ci_0 ?_
  refine qt_lald (wl_150 h) dX12_answer_158 E (fun E => ?_)
  exact qt_lreturn rfl (Nat.le_of_ble_eq_true rfl) dX12_answer_159 E G
noncomputable def f_X12_answer_b147 (x1 : Int32) (x3 : Int32) (x4 : Int32) (x5 : Int32) (h : qa_M) : Option ((Int32 × Int32 × Int32 × Int32 × qa_M) ⊕ (Int64 × qa_M)) :=
  qbd (x5 + (1 : Int32)) (fun v147 : Int32 =>
  some (.inl (x1, x3, x4, v147, h)))
set_option maxRecDepth 20000 in
theorem s_X12_answer_b147 {l : Launch} {g : qa_G} {d : Nat} {rz : Option Value} {hz : qa_M} (x1 : Int32) (x3 : Int32) (x4 : Int32) (x5 : Int32) (h : qa_M) {z : ((Int32 × Int32 × Int32 × Int32 × qa_M) ⊕ (Int64 × qa_M))} (E : f_X12_answer_b147 x1 x3 x4 x5 h = some z) (G : (Sum.elim (fun (sz : Int32 × Int32 × Int32 × Int32 × qa_M) => qt_At l g (yX12_answer, cX12_answer, 8, (some .long)) (d + 2) 0 0 6 [(0, .ref (g.1 + 119)), (1, .int sz.1), (3, .int sz.2.1), (4, .int sz.2.2.1), (5, .int sz.2.2.2.1)] [] sz.2.2.2.2 rz hz) (qg_l rz hz)) z) : qt_At l g (yX12_answer, cX12_answer, 8, (some .long)) (d + 2) 0 0 147 [(0, .ref (g.1 + 119)), (1, .int x1), (3, .int x3), (4, .int x4), (5, .int x5)] [] h rz hz := by
  unfold f_X12_answer_b147 at E
  refine qt_iinc 4 (fun v147 => [(5, .int v147), (0, .ref (g.1 + 119)), (1, .int x1), (3, .int x3), (4, .int x4)]) dX12_answer_147 rfl ci_1 (Nat.le_of_ble_eq_true rfl) (fun _ => rfl) E (fun v147 E => ?_)
  refine qt_goto 6 dX12_answer_150 (by decide) ?_
  cases E
  exact qt_sub _ [1, 2, 3, 4, 0] rfl (G)
noncomputable def f_X12_answer_b77 (x1 : Int32) (x3 : Int32) (x4 : Int32) (x5 : Int32) (s1 : Int32) (s2 : Int64) (h : qa_M) : Option ((Int32 × Int32 × Int32 × Int32 × qa_M) ⊕ (Int64 × qa_M)) :=
  qck s1 300 (
  qbd (qw_J h 150 s1.toNatClampNeg s2) (fun h77 : qa_M =>
  qbd (x4 + (1 : Int32)) (fun v78 : Int32 =>
  f_X12_answer_b147 x1 x3 v78 x5 h77)))
set_option maxRecDepth 20000 in
theorem s_X12_answer_b77 {l : Launch} {g : qa_G} {d : Nat} {rz : Option Value} {hz : qa_M} (x1 : Int32) (x3 : Int32) (x4 : Int32) (x5 : Int32) (s1 : Int32) (s2 : Int64) (h : qa_M) {z : ((Int32 × Int32 × Int32 × Int32 × qa_M) ⊕ (Int64 × qa_M))} (E : f_X12_answer_b77 x1 x3 x4 x5 s1 s2 h = some z) (G : (Sum.elim (fun (sz : Int32 × Int32 × Int32 × Int32 × qa_M) => qt_At l g (yX12_answer, cX12_answer, 8, (some .long)) (d + 2) 0 0 6 [(0, .ref (g.1 + 119)), (1, .int sz.1), (3, .int sz.2.1), (4, .int sz.2.2.1), (5, .int sz.2.2.2.1)] [] sz.2.2.2.2 rz hz) (qg_l rz hz)) z) : qt_At l g (yX12_answer, cX12_answer, 8, (some .long)) (d + 2) 0 0 77 [(0, .ref (g.1 + 119)), (1, .int x1), (3, .int x3), (4, .int x4), (5, .int x5)] [.long s2, .int s1, .ref (g.1 + 150)] h rz hz := by
  unfold f_X12_answer_b77 at E
  refine qt_last (wl_150 h) dX12_answer_77 E (fun h77 E => ?_)
  refine qt_iinc 3 (fun v78 => [(4, .int v78), (0, .ref (g.1 + 119)), (1, .int x1), (3, .int x3), (5, .int x5)]) dX12_answer_78 rfl ci_1 (Nat.le_of_ble_eq_true rfl) (fun _ => rfl) E (fun v78 E => ?_)
  refine qt_goto 147 dX12_answer_81 (by decide) ?_
  exact qt_sub _ [1, 2, 3, 0, 4] rfl ((s_X12_answer_b147 x1 x3 v78 x5 h77 E G))
noncomputable def f_X12_answer_b53 (x1 : Int32) (x3 : Int32) (x4 : Int32) (x5 : Int32) (x6 : Int32) (x7 : Int32) (h : qa_M) : Option ((Int32 × Int32 × Int32 × Int32 × qa_M) ⊕ (Int64 × qa_M)) :=
  if x6 = 0 then (
   f_X12_answer_b77 x1 x3 x4 x5 x4 x7.toInt64 h)
  else (
   qck x7 7 (
   f_X12_answer_b77 x1 x3 x4 x5 x4 (h.2.1 149 x7.toNatClampNeg) h))
set_option maxRecDepth 20000 in
theorem s_X12_answer_b53 {l : Launch} {g : qa_G} {d : Nat} {rz : Option Value} {hz : qa_M} (x1 : Int32) (x3 : Int32) (x4 : Int32) (x5 : Int32) (x6 : Int32) (x7 : Int32) (h : qa_M) {z : ((Int32 × Int32 × Int32 × Int32 × qa_M) ⊕ (Int64 × qa_M))} (E : f_X12_answer_b53 x1 x3 x4 x5 x6 x7 h = some z) (G : (Sum.elim (fun (sz : Int32 × Int32 × Int32 × Int32 × qa_M) => qt_At l g (yX12_answer, cX12_answer, 8, (some .long)) (d + 2) 0 0 6 [(0, .ref (g.1 + 119)), (1, .int sz.1), (3, .int sz.2.1), (4, .int sz.2.2.1), (5, .int sz.2.2.2.1)] [] sz.2.2.2.2 rz hz) (qg_l rz hz)) z) : qt_At l g (yX12_answer, cX12_answer, 8, (some .long)) (d + 2) 0 0 53 [(0, .ref (g.1 + 119)), (1, .int x1), (3, .int x3), (4, .int x4), (5, .int x5), (6, .int x6), (7, .int x7)] [] h rz hz := by
  unfold f_X12_answer_b53 at E
  refine qt_aload_n 0 dX12_answer_53 rfl rfl ?_
  refine qt_getS 150 (wl_119 h) fe_RX12_106 rfl dX12_answer_54 ?_
  refine qt_iload 3 dX12_answer_57 rfl ?_
  refine qt_iload 5 dX12_answer_59 rfl ?_
  refine qt_if_ne 70 dX12_answer_61 (by decide) E (fun E => ?_) (fun E => ?_)
  · refine qt_aload_n 0 dX12_answer_70 rfl rfl ?_
    refine qt_getS 149 (wl_119 h) fe_RX12_102 rfl dX12_answer_71 ?_
    refine qt_iload 6 dX12_answer_74 rfl ?_
    refine qt_lald (wl_149 h) dX12_answer_76 E (fun E => ?_)
    exact qt_sub _ [0, 1, 2, 3, 4] rfl ((s_X12_answer_b77 x1 x3 x4 x5 x4 (h.2.1 149 x7.toNatClampNeg) h E G))
  · refine qt_iload 6 dX12_answer_64 rfl ?_
    refine qt_i2l dX12_answer_66 ?_
    refine qt_goto 77 dX12_answer_67 (by decide) ?_
    exact qt_sub _ [0, 1, 2, 3, 4] rfl ((s_X12_answer_b77 x1 x3 x4 x5 x4 x7.toInt64 h E G))
noncomputable def f_X12_answer_b6 (x1 : Int32) (x3 : Int32) (x4 : Int32) (x5 : Int32) (h : qa_M) : Option ((Int32 × Int32 × Int32 × Int32 × qa_M) ⊕ (Int64 × qa_M)) :=
  if x3 ≤ x5 then (
   qup (f_X12_answer_b153 h))
  else (
   qck (((300 : Int32) * x1) + x5) 1200 (
   qbd (h.1 140 (((300 : Int32) * x1) + x5).toNatClampNeg) (fun v25 : Int32 =>
   qck (((300 : Int32) * x1) + x5) 1200 (
   qbd (h.1 141 (((300 : Int32) * x1) + x5).toNatClampNeg) (fun v40 : Int32 =>
   if v25 = 0 then (
    f_X12_answer_b53 x1 x3 x4 x5 v25 v40 h)
   else (
    if v25 = (1 : Int32) then (
     f_X12_answer_b53 x1 x3 x4 x5 v25 v40 h)
    else (
     if v25 = (9 : Int32) then (
      qck (x4 - (1 : Int32)) 300 (
      qck (x4 - (1 : Int32)) 300 (
      qbd (qw_J h 150 (x4 - (1 : Int32)).toNatClampNeg ((1 : Int64) - (h.2.1 150 (x4 - (1 : Int32)).toNatClampNeg))) (fun h110 : qa_M =>
      f_X12_answer_b147 x1 x3 x4 x5 h110))))
     else (
      qbd (x4 + (-1 : Int32)) (fun v114 : Int32 =>
      qck (v114 - (1 : Int32)) 300 (
      qck v114 300 (
      qbn (m_X12_both v25 (h.2.1 150 (v114 - (1 : Int32)).toNatClampNeg) (h.2.1 150 v114.toNatClampNeg) h) (fun (c143 : Int64) (h143 : qa_M) =>
      qck (v114 - (1 : Int32)) 300 (
      qbd (qw_J h143 150 (v114 - (1 : Int32)).toNatClampNeg c143) (fun h146 : qa_M =>
      f_X12_answer_b147 x1 x3 v114 x5 h146))))))))))))))
set_option maxRecDepth 20000 in
theorem s_X12_answer_b6 {l : Launch} {g : qa_G} {d : Nat} {rz : Option Value} {hz : qa_M} (x1 : Int32) (x3 : Int32) (x4 : Int32) (x5 : Int32) (h : qa_M) {z : ((Int32 × Int32 × Int32 × Int32 × qa_M) ⊕ (Int64 × qa_M))} (E : f_X12_answer_b6 x1 x3 x4 x5 h = some z) (G : (Sum.elim (fun (sz : Int32 × Int32 × Int32 × Int32 × qa_M) => qt_At l g (yX12_answer, cX12_answer, 8, (some .long)) (d + 2) 0 0 6 [(0, .ref (g.1 + 119)), (1, .int sz.1), (3, .int sz.2.1), (4, .int sz.2.2.1), (5, .int sz.2.2.2.1)] [] sz.2.2.2.2 rz hz) (qg_l rz hz)) z) : qt_At l g (yX12_answer, cX12_answer, 8, (some .long)) (d + 2) 0 0 6 [(0, .ref (g.1 + 119)), (1, .int x1), (3, .int x3), (4, .int x4), (5, .int x5)] [] h rz hz := by
  unfold f_X12_answer_b6 at E
  refine qt_iload 4 dX12_answer_6 rfl ?_
  refine qt_iload_n 2 dX12_answer_8 rfl rfl ?_
  refine qt_icmp_ge 153 dX12_answer_9 (by decide) E (fun E => ?_) (fun E => ?_)
  · obtain ⟨z0_, E, G⟩ := qup_g E G
    exact qt_sub _ [0] rfl ((s_X12_answer_b153 h E G))
  · refine qt_aload_n 0 dX12_answer_12 rfl rfl ?_
    refine qt_getS 140 (wl_119 h) fe_RX12_75 rfl dX12_answer_13 ?_
    refine qt_sipush dX12_answer_16 cs_300 ?_
    refine qt_iload_n 1 dX12_answer_19 rfl rfl ?_
    refine qt_imul dX12_answer_20 ?_
    refine qt_iload 4 dX12_answer_21 rfl ?_
    refine qt_iadd dX12_answer_23 ?_
    refine qt_iald (wl_140 h) dX12_answer_24 E (fun E => ?_)
    refine qt_istore (fun v25 => [(6, .int v25), (0, .ref (g.1 + 119)), (1, .int x1), (3, .int x3), (4, .int x4), (5, .int x5)]) dX12_answer_25 (Nat.le_of_ble_eq_true rfl) (fun _ => rfl) E (fun v25 E => ?_)
    refine qt_aload_n 1 dX12_answer_27 rfl rfl ?_
    refine qt_getS 141 (wl_119 h) fe_RX12_78 rfl dX12_answer_28 ?_
    refine qt_sipush dX12_answer_31 cs_300 ?_
    refine qt_iload_n 2 dX12_answer_34 rfl rfl ?_
    refine qt_imul dX12_answer_35 ?_
    refine qt_iload 5 dX12_answer_36 rfl ?_
    refine qt_iadd dX12_answer_38 ?_
    refine qt_iald (wl_141 h) dX12_answer_39 E (fun E => ?_)
    refine qt_istore (fun v40 => [(7, .int v40), (6, .int v25), (0, .ref (g.1 + 119)), (1, .int x1), (3, .int x3), (4, .int x4), (5, .int x5)]) dX12_answer_40 (Nat.le_of_ble_eq_true rfl) (fun _ => rfl) E (fun v40 E => ?_)
    refine qt_iload 1 dX12_answer_42 rfl ?_
    refine qt_if_eq 53 dX12_answer_44 (by decide) E (fun E => ?_) (fun E => ?_)
    · exact qt_sub _ [2, 3, 4, 5, 6, 1, 0] rfl ((s_X12_answer_b53 x1 x3 x4 x5 v25 v40 h E G))
    · refine qt_iload 1 dX12_answer_47 rfl ?_
      refine qt_iconst dX12_answer_49 ci_1 ?_
      refine qt_icmp_ne 84 dX12_answer_50 (by decide) E (fun E => ?_) (fun E => ?_)
      · refine qt_iload 1 dX12_answer_84 rfl ?_
        refine qt_bipush dX12_answer_86 cb_9 ?_
        refine qt_icmp_ne 114 dX12_answer_88 (by decide) E (fun E => ?_) (fun E => ?_)
        · refine qt_iinc 5 (fun v114 => [(4, .int v114), (7, .int v40), (6, .int v25), (0, .ref (g.1 + 119)), (1, .int x1), (3, .int x3), (5, .int x5)]) dX12_answer_114 rfl ci_m1 (Nat.le_of_ble_eq_true rfl) (fun _ => rfl) E (fun v114 E => ?_)
          refine qt_aload_n 3 dX12_answer_117 rfl rfl ?_
          refine qt_getS 150 (wl_119 h) fe_RX12_106 rfl dX12_answer_118 ?_
          refine qt_iload 0 dX12_answer_121 rfl ?_
          refine qt_iconst dX12_answer_123 ci_1 ?_
          refine qt_isub dX12_answer_124 ?_
          refine qt_iload 2 dX12_answer_125 rfl ?_
          refine qt_aload_n 3 dX12_answer_127 rfl rfl ?_
          refine qt_getS 150 (wl_119 h) fe_RX12_106 rfl dX12_answer_128 ?_
          refine qt_iload 0 dX12_answer_131 rfl ?_
          refine qt_iconst dX12_answer_133 ci_1 ?_
          refine qt_isub dX12_answer_134 ?_
          refine qt_lald (wl_150 h) dX12_answer_135 E (fun E => ?_)
          refine qt_aload_n 3 dX12_answer_136 rfl rfl ?_
          refine qt_getS 150 (wl_119 h) fe_RX12_106 rfl dX12_answer_137 ?_
          refine qt_iload 0 dX12_answer_140 rfl ?_
          refine qt_lald (wl_150 h) dX12_answer_142 E (fun E => ?_)
          obtain ⟨c143, h143, e143, E⟩ := qbn_el E
          refine qt_callSl (b2 := 0) [.int v25, .long (h.2.1 150 (v114 - (1 : Int32)).toNatClampNeg), .long (h.2.1 150 v114.toNatClampNeg)] (c_X12_both v25 (h.2.1 150 (v114 - (1 : Int32)).toNatClampNeg) (h.2.1 150 v114.toNatClampNeg) h e143) cv_RX12_392 rfl (Nat.le_of_ble_eq_true rfl) (Nat.le_of_ble_eq_true rfl) dX12_answer_143 ?_
          refine qt_last (wl_150 h143) dX12_answer_146 E (fun h146 E => ?_)
          exact qt_sub _ [3, 4, 5, 0, 6] rfl ((s_X12_answer_b147 x1 x3 v114 x5 h146 E G))
        · refine qt_aload_n 2 dX12_answer_91 rfl rfl ?_
          refine qt_getS 150 (wl_119 h) fe_RX12_106 rfl dX12_answer_92 ?_
          refine qt_iload 5 dX12_answer_95 rfl ?_
          refine qt_iconst dX12_answer_97 ci_1 ?_
          refine qt_isub dX12_answer_98 ?_
          refine qt_lconst dX12_answer_99 cl_1 ?_
          refine qt_aload_n 2 dX12_answer_100 rfl rfl ?_
          refine qt_getS 150 (wl_119 h) fe_RX12_106 rfl dX12_answer_101 ?_
          refine qt_iload 5 dX12_answer_104 rfl ?_
          refine qt_iconst dX12_answer_106 ci_1 ?_
          refine qt_isub dX12_answer_107 ?_
          refine qt_lald (wl_150 h) dX12_answer_108 E (fun E => ?_)
          refine qt_lsub dX12_answer_109 ?_
          refine qt_last (wl_150 h) dX12_answer_110 E (fun h110 E => ?_)
          refine qt_goto 147 dX12_answer_111 (by decide) ?_
          exact qt_sub _ [2, 3, 4, 5, 6] rfl ((s_X12_answer_b147 x1 x3 x4 x5 h110 E G))
      · exact qt_sub _ [2, 3, 4, 5, 6, 1, 0] rfl ((s_X12_answer_b53 x1 x3 x4 x5 v25 v40 h E G))
noncomputable def f_X12_answer_b6_loop (x1 : Int32) (x3 : Int32) (x4 : Int32) (x5 : Int32) (h : qa_M) : Option (Int64 × qa_M) := qlp (fun sz : Int32 × Int32 × Int32 × Int32 × qa_M => f_X12_answer_b6 sz.1 sz.2.1 sz.2.2.1 sz.2.2.2.1 sz.2.2.2.2) (x1, x3, x4, x5, h)
theorem s_X12_answer_b6_loop {l : Launch} {g : qa_G} {d : Nat} {rz : Option Value} {hz : qa_M} (x1 : Int32) (x3 : Int32) (x4 : Int32) (x5 : Int32) (h : qa_M) {z : (Int64 × qa_M)} (E : f_X12_answer_b6_loop x1 x3 x4 x5 h = some z) (G : (qg_l rz hz) z) : qt_At l g (yX12_answer, cX12_answer, 8, (some .long)) (d + 2) 0 0 6 [(0, .ref (g.1 + 119)), (1, .int x1), (3, .int x3), (4, .int x4), (5, .int x5)] [] h rz hz :=
  qlp_ind (fun sz : Int32 × Int32 × Int32 × Int32 × qa_M => qt_At l g (yX12_answer, cX12_answer, 8, (some .long)) (d + 2) 0 0 6 [(0, .ref (g.1 + 119)), (1, .int sz.1), (3, .int sz.2.1), (4, .int sz.2.2.1), (5, .int sz.2.2.2.1)] [] sz.2.2.2.2 rz hz) (fun sz E => s_X12_answer_b6 sz.1 sz.2.1 sz.2.2.1 sz.2.2.2.1 sz.2.2.2.2 E G) (fun sz sz2 E ih => s_X12_answer_b6 sz.1 sz.2.1 sz.2.2.1 sz.2.2.2.1 sz.2.2.2.2 E ih) (x1, x3, x4, x5, h) E
noncomputable def m_X12_answer (x1 : Int32) (x2 : Int32) (x3 : Int32) (h : qa_M) : Option (Int64 × qa_M) :=
  qbd (0 : Int32) (fun v1 : Int32 =>
  qbd x2 (fun v4 : Int32 =>
  f_X12_answer_b6_loop x1 x3 v1 v4 h))
set_option maxRecDepth 20000 in
theorem c_X12_answer {l : Launch} {g : qa_G} {d : Nat} (x1 : Int32) (x2 : Int32) (x3 : Int32) (h : qa_M) {c : Int64} {h1 : qa_M} (E : m_X12_answer x1 x2 x3 h = some (c, h1)) : qt_Met l g (yX12_answer, cX12_answer, 8, (some .long)) (d + 2) 0 [.ref (g.1 + 119), .int x1, .int x2, .int x3] h (some (.long c)) h1 := by
  refine qt_Met.of (plainFor_of_name (by decide)) (Nat.le_of_ble_eq_true rfl) ?_
  have G : qg_l (some (.long c)) h1 ((c, h1)) := ⟨rfl, rfl⟩
  unfold m_X12_answer at E
  refine qt_iconst dX12_answer_0 ci_0 ?_
  refine qt_istore (fun v1 => [(4, .int v1), (0, .ref (g.1 + 119)), (1, .int x1), (2, .int x2), (3, .int x3)]) dX12_answer_1 (Nat.le_of_ble_eq_true rfl) (fun _ => rfl) E (fun v1 E => ?_)
  refine qt_iload_n 3 dX12_answer_3 rfl rfl ?_
  refine qt_istore (fun v4 => [(5, .int v4), (4, .int v1), (0, .ref (g.1 + 119)), (1, .int x1), (2, .int x2), (3, .int x3)]) dX12_answer_4 (Nat.le_of_ble_eq_true rfl) (fun _ => rfl) E (fun v4 E => ?_)
  exact qt_sub _ [2, 3, 5, 1, 0] rfl ((s_X12_answer_b6_loop x1 x3 v1 v4 h E G))
noncomputable def f_X12_barred_b107 (x2 : Int32) (x4 : Int32) (s0 : Int32) (s1 : Int32) (h : qa_M) : Option ((Int32 × Int32 × Int32 × qa_M) ⊕ (Int32 × qa_M)) :=
  qbd (s0 ||| s1) (fun v108 : Int32 =>
  qbd (x4 + (1 : Int32)) (fun v109 : Int32 =>
  some (.inl (x2, v108, v109, h))))
set_option maxRecDepth 20000 in
theorem s_X12_barred_b107 {l : Launch} {g : qa_G} {d : Nat} {rz : Option Value} {hz : qa_M} (x2 : Int32) (x4 : Int32) (s0 : Int32) (s1 : Int32) (h : qa_M) {z : ((Int32 × Int32 × Int32 × qa_M) ⊕ (Int32 × qa_M))} (E : f_X12_barred_b107 x2 x4 s0 s1 h = some z) (G : (Sum.elim (fun (sz : Int32 × Int32 × Int32 × qa_M) => qt_At l g (yX12_barred, cX12_barred, 5, (some .int)) (d + 5) 0 0 28 [(0, .ref (g.1 + 119)), (2, .int sz.1), (3, .int sz.2.1), (4, .int sz.2.2.1)] [] sz.2.2.2 rz hz) (qg_i rz hz)) z) : qt_At l g (yX12_barred, cX12_barred, 5, (some .int)) (d + 5) 0 0 107 [(0, .ref (g.1 + 119)), (2, .int x2), (4, .int x4)] [.int s1, .int s0] h rz hz := by
  unfold f_X12_barred_b107 at E
  refine qt_ior dX12_barred_107 ?_
  refine qt_istore_n (fun v108 => [(3, .int v108), (0, .ref (g.1 + 119)), (2, .int x2), (4, .int x4)]) dX12_barred_108 rfl (Nat.le_of_ble_eq_true rfl) (fun _ => rfl) E (fun v108 E => ?_)
  refine qt_iinc 3 (fun v109 => [(4, .int v109), (3, .int v108), (0, .ref (g.1 + 119)), (2, .int x2)]) dX12_barred_109 rfl ci_1 (Nat.le_of_ble_eq_true rfl) (fun _ => rfl) E (fun v109 E => ?_)
  refine qt_goto 28 dX12_barred_112 (by decide) ?_
  cases E
  exact qt_sub _ [2, 3, 1, 0] rfl (G)
noncomputable def f_X12_barred_b106 (x2 : Int32) (x4 : Int32) (s0 : Int32) (h : qa_M) : Option ((Int32 × Int32 × Int32 × qa_M) ⊕ (Int32 × qa_M)) :=
  f_X12_barred_b107 x2 x4 s0 (0 : Int32) h
set_option maxRecDepth 20000 in
theorem s_X12_barred_b106 {l : Launch} {g : qa_G} {d : Nat} {rz : Option Value} {hz : qa_M} (x2 : Int32) (x4 : Int32) (s0 : Int32) (h : qa_M) {z : ((Int32 × Int32 × Int32 × qa_M) ⊕ (Int32 × qa_M))} (E : f_X12_barred_b106 x2 x4 s0 h = some z) (G : (Sum.elim (fun (sz : Int32 × Int32 × Int32 × qa_M) => qt_At l g (yX12_barred, cX12_barred, 5, (some .int)) (d + 5) 0 0 28 [(0, .ref (g.1 + 119)), (2, .int sz.1), (3, .int sz.2.1), (4, .int sz.2.2.1)] [] sz.2.2.2 rz hz) (qg_i rz hz)) z) : qt_At l g (yX12_barred, cX12_barred, 5, (some .int)) (d + 5) 0 0 106 [(0, .ref (g.1 + 119)), (2, .int x2), (4, .int x4)] [.int s0] h rz hz := by
  unfold f_X12_barred_b106 at E
  refine qt_iconst dX12_barred_106 ci_0 ?_
  exact qt_sub _ [0, 1, 2] rfl ((s_X12_barred_b107 x2 x4 s0 (0 : Int32) h E G))
noncomputable def f_X12_barred_b28 (x2 : Int32) (x3 : Int32) (x4 : Int32) (h : qa_M) : Option ((Int32 × Int32 × Int32 × qa_M) ⊕ (Int32 × qa_M)) :=
  qck x2 4 (
  if (((12 : Int32) * x2) + (h.1 142 x2.toNatClampNeg)) ≤ x4 then (
   qup (some (x3, h)))
  else (
   qck x4 48 (
   if (h.1 144 x4.toNatClampNeg) = (-1 : Int32) then (
    qck x4 48 (
    qbn (m_X12_isSort (h.1 143 x4.toNatClampNeg) h) (fun (c64 : Int32) (h64 : qa_M) =>
    if c64 = 0 then (
     f_X12_barred_b106 x2 x4 x3 h64)
    else (
     qck x4 48 (
     qck x4 48 (
     qbn (m_X12_answer x2 (h64.1 146 x4.toNatClampNeg) (h64.1 147 x4.toNatClampNeg) h64) (fun (c86 : Int64) (h86 : qa_M) =>
     if c86 = (1 : Int64) then (
      qck x4 48 (
      f_X12_barred_b107 x2 x4 x3 ((1 : Int32) <<< ((h86.1 143 x4.toNatClampNeg) &&& 31)) h86))
     else (
      f_X12_barred_b106 x2 x4 x3 h86))))))))
   else (
    f_X12_barred_b106 x2 x4 x3 h))))
set_option maxRecDepth 20000 in
theorem s_X12_barred_b28 {l : Launch} {g : qa_G} {d : Nat} {rz : Option Value} {hz : qa_M} (x2 : Int32) (x3 : Int32) (x4 : Int32) (h : qa_M) {z : ((Int32 × Int32 × Int32 × qa_M) ⊕ (Int32 × qa_M))} (E : f_X12_barred_b28 x2 x3 x4 h = some z) (G : (Sum.elim (fun (sz : Int32 × Int32 × Int32 × qa_M) => qt_At l g (yX12_barred, cX12_barred, 5, (some .int)) (d + 5) 0 0 28 [(0, .ref (g.1 + 119)), (2, .int sz.1), (3, .int sz.2.1), (4, .int sz.2.2.1)] [] sz.2.2.2 rz hz) (qg_i rz hz)) z) : qt_At l g (yX12_barred, cX12_barred, 5, (some .int)) (d + 5) 0 0 28 [(0, .ref (g.1 + 119)), (2, .int x2), (3, .int x3), (4, .int x4)] [] h rz hz := by
  unfold f_X12_barred_b28 at E
  refine qt_iload 3 dX12_barred_28 rfl ?_
  refine qt_bipush dX12_barred_30 cb_12 ?_
  refine qt_iload_n 1 dX12_barred_32 rfl rfl ?_
  refine qt_imul dX12_barred_33 ?_
  refine qt_aload_n 0 dX12_barred_34 rfl rfl ?_
  refine qt_getS 142 (wl_119 h) fe_RX12_81 rfl dX12_barred_35 ?_
  refine qt_iload_n 1 dX12_barred_38 rfl rfl ?_
  refine qt_iald (wl_142 h) dX12_barred_39 E (fun E => ?_)
  refine qt_iadd dX12_barred_40 ?_
  refine qt_icmp_ge 115 dX12_barred_41 (by decide) E (fun E => ?_) (fun E => ?_)
  · refine qt_iload_n 2 dX12_barred_115 rfl rfl ?_
    obtain ⟨z0_, E, G⟩ := qup_g E G
    exact qt_ireturn rfl (Nat.le_of_ble_eq_true rfl) dX12_barred_116 E G
  · refine qt_iload_n 2 dX12_barred_44 rfl rfl ?_
    refine qt_aload_n 0 dX12_barred_45 rfl rfl ?_
    refine qt_getS 144 (wl_119 h) fe_RX12_87 rfl dX12_barred_46 ?_
    refine qt_iload 3 dX12_barred_49 rfl ?_
    refine qt_iald (wl_144 h) dX12_barred_51 E (fun E => ?_)
    refine qt_iconst dX12_barred_52 ci_m1 ?_
    refine qt_icmp_ne 106 dX12_barred_53 (by decide) E (fun E => ?_) (fun E => ?_)
    · exact qt_sub _ [0, 1, 3] rfl ((s_X12_barred_b106 x2 x4 x3 h E G))
    · refine qt_aload_n 0 dX12_barred_56 rfl rfl ?_
      refine qt_aload_n 0 dX12_barred_57 rfl rfl ?_
      refine qt_getS 143 (wl_119 h) fe_RX12_84 rfl dX12_barred_58 ?_
      refine qt_iload 3 dX12_barred_61 rfl ?_
      refine qt_iald (wl_143 h) dX12_barred_63 E (fun E => ?_)
      obtain ⟨c64, h64, e64, E⟩ := qbn_el E
      refine qt_callVi (b2 := 0) [.int (h.1 143 x4.toNatClampNeg)] (c_X12_isSort (h.1 143 x4.toNatClampNeg) h e64) cv_RX12_410 (wl_119 h) rfl rfl rfl (Nat.le_of_ble_eq_true rfl) (Nat.le_of_ble_eq_true rfl) dX12_barred_64 ?_
      refine qt_if_eq 106 dX12_barred_67 (by decide) E (fun E => ?_) (fun E => ?_)
      · exact qt_sub _ [0, 1, 3] rfl ((s_X12_barred_b106 x2 x4 x3 h64 E G))
      · refine qt_aload_n 0 dX12_barred_70 rfl rfl ?_
        refine qt_iload_n 1 dX12_barred_71 rfl rfl ?_
        refine qt_aload_n 0 dX12_barred_72 rfl rfl ?_
        refine qt_getS 146 (wl_119 h64) fe_RX12_93 rfl dX12_barred_73 ?_
        refine qt_iload 3 dX12_barred_76 rfl ?_
        refine qt_iald (wl_146 h64) dX12_barred_78 E (fun E => ?_)
        refine qt_aload_n 0 dX12_barred_79 rfl rfl ?_
        refine qt_getS 147 (wl_119 h64) fe_RX12_96 rfl dX12_barred_80 ?_
        refine qt_iload 3 dX12_barred_83 rfl ?_
        refine qt_iald (wl_147 h64) dX12_barred_85 E (fun E => ?_)
        obtain ⟨c86, h86, e86, E⟩ := qbn_el E
        refine qt_callVl (b2 := 0) [.int x2, .int (h64.1 146 x4.toNatClampNeg), .int (h64.1 147 x4.toNatClampNeg)] (c_X12_answer x2 (h64.1 146 x4.toNatClampNeg) (h64.1 147 x4.toNatClampNeg) h64 e86) cv_RX12_413 (wl_119 h64) rfl rfl rfl (Nat.le_of_ble_eq_true rfl) (Nat.le_of_ble_eq_true rfl) dX12_barred_86 ?_
        refine qt_lconst dX12_barred_89 cl_1 ?_
        refine qt_lc_ne 106 dX12_barred_90 dX12_barred_91 (by decide) E (fun E => ?_) (fun E => ?_)
        · exact qt_sub _ [0, 1, 3] rfl ((s_X12_barred_b106 x2 x4 x3 h86 E G))
        · refine qt_iconst dX12_barred_94 ci_1 ?_
          refine qt_aload_n 0 dX12_barred_95 rfl rfl ?_
          refine qt_getS 143 (wl_119 h86) fe_RX12_84 rfl dX12_barred_96 ?_
          refine qt_iload 3 dX12_barred_99 rfl ?_
          refine qt_iald (wl_143 h86) dX12_barred_101 E (fun E => ?_)
          refine qt_ishl dX12_barred_102 ?_
          refine qt_goto 107 dX12_barred_103 (by decide) ?_
          exact qt_sub _ [0, 1, 3] rfl ((s_X12_barred_b107 x2 x4 x3 ((1 : Int32) <<< ((h86.1 143 x4.toNatClampNeg) &&& 31)) h86 E G))
noncomputable def f_X12_barred_b28_loop (x2 : Int32) (x3 : Int32) (x4 : Int32) (h : qa_M) : Option (Int32 × qa_M) := qlp (fun sz : Int32 × Int32 × Int32 × qa_M => f_X12_barred_b28 sz.1 sz.2.1 sz.2.2.1 sz.2.2.2) (x2, x3, x4, h)
theorem s_X12_barred_b28_loop {l : Launch} {g : qa_G} {d : Nat} {rz : Option Value} {hz : qa_M} (x2 : Int32) (x3 : Int32) (x4 : Int32) (h : qa_M) {z : (Int32 × qa_M)} (E : f_X12_barred_b28_loop x2 x3 x4 h = some z) (G : (qg_i rz hz) z) : qt_At l g (yX12_barred, cX12_barred, 5, (some .int)) (d + 5) 0 0 28 [(0, .ref (g.1 + 119)), (2, .int x2), (3, .int x3), (4, .int x4)] [] h rz hz :=
  qlp_ind (fun sz : Int32 × Int32 × Int32 × qa_M => qt_At l g (yX12_barred, cX12_barred, 5, (some .int)) (d + 5) 0 0 28 [(0, .ref (g.1 + 119)), (2, .int sz.1), (3, .int sz.2.1), (4, .int sz.2.2.1)] [] sz.2.2.2 rz hz) (fun sz E => s_X12_barred_b28 sz.1 sz.2.1 sz.2.2.1 sz.2.2.2 E G) (fun sz sz2 E ih => s_X12_barred_b28 sz.1 sz.2.1 sz.2.2.1 sz.2.2.2 E ih) (x2, x3, x4, h) E
noncomputable def m_X12_barred (x1 : Int32) (h : qa_M) : Option (Int32 × qa_M) :=
  qck (6 : Int32) 8 (
  qbd ((h.1 120 (6 : Int32).toNatClampNeg) - (1 : Int32)) (fun v9 : Int32 =>
  qbd (0 : Int32) (fun v11 : Int32 =>
  if v9 = (-1 : Int32) then (
   some (v11, h))
  else (
   qbv (m_X12_asks x1 h) (fun h19 : qa_M =>
   qbd ((12 : Int32) * v9) (fun v26 : Int32 =>
   f_X12_barred_b28_loop v9 v11 v26 h19))))))
set_option maxRecDepth 20000 in
theorem c_X12_barred {l : Launch} {g : qa_G} {d : Nat} (x1 : Int32) (h : qa_M) {c : Int32} {h1 : qa_M} (E : m_X12_barred x1 h = some (c, h1)) : qt_Met l g (yX12_barred, cX12_barred, 5, (some .int)) (d + 5) 0 [.ref (g.1 + 119), .int x1] h (some (.int c)) h1 := by
  refine qt_Met.of (plainFor_of_name (by decide)) (Nat.le_of_ble_eq_true rfl) ?_
  have G : qg_i (some (.int c)) h1 ((c, h1)) := ⟨rfl, rfl⟩
  unfold m_X12_barred at E
  refine qt_aload_n 0 dX12_barred_0 rfl rfl ?_
  refine qt_getS 120 (wl_119 h) fe_RX12_7 rfl dX12_barred_1 ?_
  refine qt_bipush dX12_barred_4 cb_6 ?_
  refine qt_iald (wl_120 h) dX12_barred_6 E (fun E => ?_)
  refine qt_iconst dX12_barred_7 ci_1 ?_
  refine qt_isub dX12_barred_8 ?_
  refine qt_istore_n (fun v9 => [(2, .int v9), (0, .ref (g.1 + 119)), (1, .int x1)]) dX12_barred_9 rfl (Nat.le_of_ble_eq_true rfl) (fun _ => rfl) E (fun v9 E => ?_)
  refine qt_iconst dX12_barred_10 ci_0 ?_
  refine qt_istore_n (fun v11 => [(3, .int v11), (2, .int v9), (0, .ref (g.1 + 119)), (1, .int x1)]) dX12_barred_11 rfl (Nat.le_of_ble_eq_true rfl) (fun _ => rfl) E (fun v11 E => ?_)
  refine qt_iload_n 1 dX12_barred_12 rfl rfl ?_
  refine qt_iconst dX12_barred_13 ci_m1 ?_
  refine qt_icmp_eq 115 dX12_barred_14 (by decide) E (fun E => ?_) (fun E => ?_)
  · refine qt_iload_n 0 dX12_barred_115 rfl rfl ?_
    exact qt_ireturn rfl (Nat.le_of_ble_eq_true rfl) dX12_barred_116 E G
  · refine qt_aload_n 2 dX12_barred_17 rfl rfl ?_
    refine qt_iload_n 3 dX12_barred_18 rfl rfl ?_
    obtain ⟨h19, e19, E⟩ := qbv_el E
    refine qt_callVv (b2 := 0) [.int x1] (c_X12_asks x1 h e19) cv_RX12_407 (wl_119 h) rfl rfl rfl (Nat.le_of_ble_eq_true rfl) (Nat.le_of_ble_eq_true rfl) dX12_barred_19 ?_
    refine qt_bipush dX12_barred_22 cb_12 ?_
    refine qt_iload_n 1 dX12_barred_24 rfl rfl ?_
    refine qt_imul dX12_barred_25 ?_
    refine qt_istore (fun v26 => [(4, .int v26), (3, .int v11), (2, .int v9), (0, .ref (g.1 + 119)), (1, .int x1)]) dX12_barred_26 (Nat.le_of_ble_eq_true rfl) (fun _ => rfl) E (fun v26 E => ?_)
    exact qt_sub _ [3, 2, 1, 0] rfl ((s_X12_barred_b28_loop v9 v11 v26 h19 E G))
noncomputable def m_X12_square (x1 : Int32) (x2 : Int32) (x3 : Int32) (h : qa_M) : Option (Int32 × qa_M) :=
  qbn (m_X12_isSquare x1 x2 h) (fun (c3 : Int32) (h3 : qa_M) =>
  if c3 = 0 then (
   some ((-1 : Int32), h3))
  else (
   qbn (m_X12_in x3.toInt64 (0 : Int64) (5 : Int64) h3) (fun (c15 : Int32) (h15 : qa_M) =>
   if c15 = 0 then (
    some ((-1 : Int32), h15))
   else (
    qbd (((6 : Int32) * x2) + x1) (fun v29 : Int32 =>
    if x3 = (0 : Int32) then (
     qbn (m_X12_isWood v29 h15) (fun (c71 : Int32) (h71 : qa_M) =>
     if c71 = 0 then (
      some ((0 : Int32), h71))
     else (
      some ((1 : Int32), h71))))
    else (
    if x3 = (1 : Int32) then (
     qbn (m_X12_hillOn v29 h15) (fun (c86 : Int32) (h86 : qa_M) =>
     some (c86, h86)))
    else (
    if x3 = (2 : Int32) then (
     qbn (m_X12_manySee v29 h15) (fun (c93 : Int32) (h93 : qa_M) =>
     some (c93, h93)))
    else (
    if x3 = (3 : Int32) then (
     qbn (m_X12_manyRoads v29 h15) (fun (c100 : Int32) (h100 : qa_M) =>
     some (c100, h100)))
    else (
    if x3 = (4 : Int32) then (
     qbn (m_X12_woodsBeside v29 h15) (fun (c107 : Int32) (h107 : qa_M) =>
     some (c107, h107)))
    else (
    qbn (m_X12_barred v29 h15) (fun (c114 : Int32) (h114 : qa_M) =>
    some (c114, h114))))))))))))
set_option maxRecDepth 20000 in
theorem c_X12_square {l : Launch} {g : qa_G} {d : Nat} (x1 : Int32) (x2 : Int32) (x3 : Int32) (h : qa_M) {c : Int32} {h1 : qa_M} (E : m_X12_square x1 x2 x3 h = some (c, h1)) : qt_Met l g (yX12_square, cX12_square, 5, (some .int)) (d + 6) 0 [.ref (g.1 + 119), .int x1, .int x2, .int x3] h (some (.int c)) h1 := by
  refine qt_Met.of (plainFor_of_name (by decide)) (Nat.le_of_ble_eq_true rfl) ?_
  have G : qg_i (some (.int c)) h1 ((c, h1)) := ⟨rfl, rfl⟩
  unfold m_X12_square at E
  refine qt_aload_n 0 dX12_square_0 rfl rfl ?_
  refine qt_iload_n 1 dX12_square_1 rfl rfl ?_
  refine qt_iload_n 2 dX12_square_2 rfl rfl ?_
  obtain ⟨c3, h3, e3, E⟩ := qbn_el E
  refine qt_callVi (b2 := 0) [.int x1, .int x2] (c_X12_isSquare x1 x2 h e3) cv_RX12_165 (wl_119 h) rfl rfl rfl (Nat.le_of_ble_eq_true rfl) (Nat.le_of_ble_eq_true rfl) dX12_square_3 ?_
  refine qt_if_eq 21 dX12_square_6 (by decide) E (fun E => ?_) (fun E => ?_)
  · refine qt_iconst dX12_square_21 ci_m1 ?_
    exact qt_ireturn rfl (Nat.le_of_ble_eq_true rfl) dX12_square_22 E G
  · refine qt_iload_n 3 dX12_square_9 rfl rfl ?_
    refine qt_i2l dX12_square_10 ?_
    refine qt_lconst dX12_square_11 cl_0 ?_
    refine qt_ldc2 tb_1762 dX12_square_12 ?_
    obtain ⟨c15, h15, e15, E⟩ := qbn_el E
    refine qt_callSi (b2 := 0) [.long x3.toInt64, .long (0 : Int64), .long (5 : Int64)] (c_X12_in x3.toInt64 (0 : Int64) (5 : Int64) h3 e15) cv_RX12_161 rfl (Nat.le_of_ble_eq_true rfl) (Nat.le_of_ble_eq_true rfl) dX12_square_15 ?_
    refine qt_if_ne 23 dX12_square_18 (by decide) E (fun E => ?_) (fun E => ?_)
    · refine qt_bipush dX12_square_23 cb_6 ?_
      refine qt_iload_n 2 dX12_square_25 rfl rfl ?_
      refine qt_imul dX12_square_26 ?_
      refine qt_iload_n 1 dX12_square_27 rfl rfl ?_
      refine qt_iadd dX12_square_28 ?_
      refine qt_istore (fun v29 => [(4, .int v29), (0, .ref (g.1 + 119)), (1, .int x1), (2, .int x2), (3, .int x3)]) dX12_square_29 (Nat.le_of_ble_eq_true rfl) (fun _ => rfl) E (fun v29 E => ?_)
      refine qt_iload_n 4 dX12_square_31 rfl rfl ?_
      by_cases c32_0 : x3 = (0 : Int32)
      · replace E := qif_t c32_0 E
        refine qt_tabIn (off := 36) 68 dX12_square_32 c32_0 (by decide) (by decide) rfl (by decide) ?_
        refine qt_aload_n 1 dX12_square_68 rfl rfl ?_
        refine qt_iload 0 dX12_square_69 rfl ?_
        obtain ⟨c71, h71, e71, E⟩ := qbn_el E
        refine qt_callVi (b2 := 0) [.int v29] (c_X12_isWood v29 h15 e71) cv_RX12_183 (wl_119 h15) rfl rfl rfl (Nat.le_of_ble_eq_true rfl) (Nat.le_of_ble_eq_true rfl) dX12_square_71 ?_
        refine qt_if_eq 81 dX12_square_74 (by decide) E (fun E => ?_) (fun E => ?_)
        · refine qt_iconst dX12_square_81 ci_0 ?_
          exact qt_ireturn rfl (Nat.le_of_ble_eq_true rfl) dX12_square_82 E G
        · refine qt_iconst dX12_square_77 ci_1 ?_
          refine qt_goto 82 dX12_square_78 (by decide) ?_
          exact qt_ireturn rfl (Nat.le_of_ble_eq_true rfl) dX12_square_82 E G
      replace E := qif_f c32_0 E
      by_cases c32_1 : x3 = (1 : Int32)
      · replace E := qif_t c32_1 E
        refine qt_tabIn (off := 51) 83 dX12_square_32 c32_1 (by decide) (by decide) rfl (by decide) ?_
        refine qt_aload_n 1 dX12_square_83 rfl rfl ?_
        refine qt_iload 0 dX12_square_84 rfl ?_
        obtain ⟨c86, h86, e86, E⟩ := qbn_el E
        refine qt_callVi (b2 := 0) [.int v29] (c_X12_hillOn v29 h15 e86) cv_RX12_169 (wl_119 h15) rfl rfl rfl (Nat.le_of_ble_eq_true rfl) (Nat.le_of_ble_eq_true rfl) dX12_square_86 ?_
        exact qt_ireturn rfl (Nat.le_of_ble_eq_true rfl) dX12_square_89 E G
      replace E := qif_f c32_1 E
      by_cases c32_2 : x3 = (2 : Int32)
      · replace E := qif_t c32_2 E
        refine qt_tabIn (off := 58) 90 dX12_square_32 c32_2 (by decide) (by decide) rfl (by decide) ?_
        refine qt_aload_n 1 dX12_square_90 rfl rfl ?_
        refine qt_iload 0 dX12_square_91 rfl ?_
        obtain ⟨c93, h93, e93, E⟩ := qbn_el E
        refine qt_callVi (b2 := 0) [.int v29] (c_X12_manySee v29 h15 e93) cv_RX12_401 (wl_119 h15) rfl rfl rfl (Nat.le_of_ble_eq_true rfl) (Nat.le_of_ble_eq_true rfl) dX12_square_93 ?_
        exact qt_ireturn rfl (Nat.le_of_ble_eq_true rfl) dX12_square_96 E G
      replace E := qif_f c32_2 E
      by_cases c32_3 : x3 = (3 : Int32)
      · replace E := qif_t c32_3 E
        refine qt_tabIn (off := 65) 97 dX12_square_32 c32_3 (by decide) (by decide) rfl (by decide) ?_
        refine qt_aload_n 1 dX12_square_97 rfl rfl ?_
        refine qt_iload 0 dX12_square_98 rfl ?_
        obtain ⟨c100, h100, e100, E⟩ := qbn_el E
        refine qt_callVi (b2 := 0) [.int v29] (c_X12_manyRoads v29 h15 e100) cv_RX12_404 (wl_119 h15) rfl rfl rfl (Nat.le_of_ble_eq_true rfl) (Nat.le_of_ble_eq_true rfl) dX12_square_100 ?_
        exact qt_ireturn rfl (Nat.le_of_ble_eq_true rfl) dX12_square_103 E G
      replace E := qif_f c32_3 E
      by_cases c32_4 : x3 = (4 : Int32)
      · replace E := qif_t c32_4 E
        refine qt_tabIn (off := 72) 104 dX12_square_32 c32_4 (by decide) (by decide) rfl (by decide) ?_
        refine qt_aload_n 1 dX12_square_104 rfl rfl ?_
        refine qt_iload 0 dX12_square_105 rfl ?_
        obtain ⟨c107, h107, e107, E⟩ := qbn_el E
        refine qt_callVi (b2 := 0) [.int v29] (c_X12_woodsBeside v29 h15 e107) cv_RX12_398 (wl_119 h15) rfl rfl rfl (Nat.le_of_ble_eq_true rfl) (Nat.le_of_ble_eq_true rfl) dX12_square_107 ?_
        exact qt_ireturn rfl (Nat.le_of_ble_eq_true rfl) dX12_square_110 E G
      replace E := qif_f c32_4 E
      have e32_0 : (x3 : Int32).toInt ≠ 0 := fun q => c32_0 (Int32.toInt_inj.mp (q.trans (by decide)))
      have e32_1 : (x3 : Int32).toInt ≠ 1 := fun q => c32_1 (Int32.toInt_inj.mp (q.trans (by decide)))
      have e32_2 : (x3 : Int32).toInt ≠ 2 := fun q => c32_2 (Int32.toInt_inj.mp (q.trans (by decide)))
      have e32_3 : (x3 : Int32).toInt ≠ 3 := fun q => c32_3 (Int32.toInt_inj.mp (q.trans (by decide)))
      have e32_4 : (x3 : Int32).toInt ≠ 4 := fun q => c32_4 (Int32.toInt_inj.mp (q.trans (by decide)))
      refine qt_tabOut 111 dX12_square_32 (by omega) (by decide) ?_
      refine qt_aload_n 1 dX12_square_111 rfl rfl ?_
      refine qt_iload 0 dX12_square_112 rfl ?_
      obtain ⟨c114, h114, e114, E⟩ := qbn_el E
      refine qt_callVi (b2 := 0) [.int v29] (c_X12_barred v29 h15 e114) cv_RX12_419 (wl_119 h15) rfl rfl rfl (Nat.le_of_ble_eq_true rfl) (Nat.le_of_ble_eq_true rfl) dX12_square_114 ?_
      exact qt_ireturn rfl (Nat.le_of_ble_eq_true rfl) dX12_square_117 E G
    · refine qt_iconst dX12_square_21 ci_m1 ?_
      exact qt_ireturn rfl (Nat.le_of_ble_eq_true rfl) dX12_square_22 E G
noncomputable def m_X12_isHill (x1 : Int32) (h : qa_M) : Option (Int32 × qa_M) :=
  qck (2 : Int32) 8 (
  qbn (m_X12_in x1.toInt64 (0 : Int64) (((h.1 120 (2 : Int32).toNatClampNeg) - (1 : Int32)).toInt64) h) (fun (c12 : Int32) (h12 : qa_M) =>
  qpr (c12 = 0 ∨ c12 = 1) (
  some (c12, h12))))
set_option maxRecDepth 20000 in
theorem c_X12_isHill {l : Launch} {g : qa_G} {d : Nat} (x1 : Int32) (h : qa_M) {c : Int32} {h1 : qa_M} (E : m_X12_isHill x1 h = some (c, h1)) : qt_Met l g (yX12_isHill, cX12_isHill, 2, (some .boolean)) (d + 1) 0 [.ref (g.1 + 119), .int x1] h (some (.int c)) h1 := by
  refine qt_Met.of (plainFor_of_name (by decide)) (Nat.le_of_ble_eq_true rfl) ?_
  have G : qg_i (some (.int c)) h1 ((c, h1)) := ⟨rfl, rfl⟩
  unfold m_X12_isHill at E
  refine qt_iload_n 1 dX12_isHill_0 rfl rfl ?_
  refine qt_i2l dX12_isHill_1 ?_
  refine qt_lconst dX12_isHill_2 cl_0 ?_
  refine qt_aload_n 0 dX12_isHill_3 rfl rfl ?_
  refine qt_getS 120 (wl_119 h) fe_RX12_7 rfl dX12_isHill_4 ?_
  refine qt_iconst dX12_isHill_7 ci_2 ?_
  refine qt_iald (wl_120 h) dX12_isHill_8 E (fun E => ?_)
  refine qt_iconst dX12_isHill_9 ci_1 ?_
  refine qt_isub dX12_isHill_10 ?_
  refine qt_i2l dX12_isHill_11 ?_
  obtain ⟨c12, h12, e12, E⟩ := qbn_el E
  refine qt_callSi (b2 := 0) [.long x1.toInt64, .long (0 : Int64), .long (((h.1 120 (2 : Int32).toNatClampNeg) - (1 : Int32)).toInt64)] (c_X12_in x1.toInt64 (0 : Int64) (((h.1 120 (2 : Int32).toNatClampNeg) - (1 : Int32)).toInt64) h e12) cv_RX12_161 rfl (Nat.le_of_ble_eq_true rfl) (Nat.le_of_ble_eq_true rfl) dX12_isHill_12 ?_
  obtain ⟨z15, E⟩ := qpr_el E
  exact qt_zreturn rfl z15 (Nat.le_of_ble_eq_true rfl) dX12_isHill_15 E G
noncomputable def f_X12_seenFrom_b41 (x1 : Int32) (x2 : Int32) (x5 : Int32) (s0 : Int64) (s1 : Int64) (h : qa_M) : Option ((Int32 × Int32 × Int64 × Int32 × qa_M) ⊕ (Int64 × qa_M)) :=
  qbd (s0 ||| s1) (fun v42 : Int64 =>
  qbd (x5 + (1 : Int32)) (fun v43 : Int32 =>
  some (.inl (x1, x2, v42, v43, h))))
set_option maxRecDepth 20000 in
theorem s_X12_seenFrom_b41 {l : Launch} {g : qa_G} {d : Nat} {rz : Option Value} {hz : qa_M} (x1 : Int32) (x2 : Int32) (x5 : Int32) (s0 : Int64) (s1 : Int64) (h : qa_M) {z : ((Int32 × Int32 × Int64 × Int32 × qa_M) ⊕ (Int64 × qa_M))} (E : f_X12_seenFrom_b41 x1 x2 x5 s0 s1 h = some z) (G : (Sum.elim (fun (sz : Int32 × Int32 × Int64 × Int32 × qa_M) => qt_At l g (yX12_seenFrom, cX12_seenFrom, 6, (some .long)) (d + 3) 0 0 5 [(0, .ref (g.1 + 119)), (1, .int sz.1), (2, .int sz.2.1), (3, .long sz.2.2.1), (5, .int sz.2.2.2.1)] [] sz.2.2.2.2 rz hz) (qg_l rz hz)) z) : qt_At l g (yX12_seenFrom, cX12_seenFrom, 6, (some .long)) (d + 3) 0 0 41 [(0, .ref (g.1 + 119)), (1, .int x1), (2, .int x2), (5, .int x5)] [.long s1, .long s0] h rz hz := by
  unfold f_X12_seenFrom_b41 at E
  refine qt_lor dX12_seenFrom_41 ?_
  refine qt_lstore_n (fun v42 => [(3, .long v42), (0, .ref (g.1 + 119)), (1, .int x1), (2, .int x2), (5, .int x5)]) dX12_seenFrom_42 rfl (Nat.le_of_ble_eq_true rfl) (fun _ => rfl) E (fun v42 E => ?_)
  refine qt_iinc 4 (fun v43 => [(5, .int v43), (3, .long v42), (0, .ref (g.1 + 119)), (1, .int x1), (2, .int x2)]) dX12_seenFrom_43 rfl ci_1 (Nat.le_of_ble_eq_true rfl) (fun _ => rfl) E (fun v43 E => ?_)
  refine qt_goto 5 dX12_seenFrom_46 (by decide) ?_
  cases E
  exact qt_sub _ [2, 3, 4, 1, 0] rfl (G)
noncomputable def f_X12_seenFrom_b40 (x1 : Int32) (x2 : Int32) (x5 : Int32) (s0 : Int64) (h : qa_M) : Option ((Int32 × Int32 × Int64 × Int32 × qa_M) ⊕ (Int64 × qa_M)) :=
  f_X12_seenFrom_b41 x1 x2 x5 s0 (0 : Int64) h
set_option maxRecDepth 20000 in
theorem s_X12_seenFrom_b40 {l : Launch} {g : qa_G} {d : Nat} {rz : Option Value} {hz : qa_M} (x1 : Int32) (x2 : Int32) (x5 : Int32) (s0 : Int64) (h : qa_M) {z : ((Int32 × Int32 × Int64 × Int32 × qa_M) ⊕ (Int64 × qa_M))} (E : f_X12_seenFrom_b40 x1 x2 x5 s0 h = some z) (G : (Sum.elim (fun (sz : Int32 × Int32 × Int64 × Int32 × qa_M) => qt_At l g (yX12_seenFrom, cX12_seenFrom, 6, (some .long)) (d + 3) 0 0 5 [(0, .ref (g.1 + 119)), (1, .int sz.1), (2, .int sz.2.1), (3, .long sz.2.2.1), (5, .int sz.2.2.2.1)] [] sz.2.2.2.2 rz hz) (qg_l rz hz)) z) : qt_At l g (yX12_seenFrom, cX12_seenFrom, 6, (some .long)) (d + 3) 0 0 40 [(0, .ref (g.1 + 119)), (1, .int x1), (2, .int x2), (5, .int x5)] [.long s0] h rz hz := by
  unfold f_X12_seenFrom_b40 at E
  refine qt_lconst dX12_seenFrom_40 cl_0 ?_
  exact qt_sub _ [0, 1, 2, 3] rfl ((s_X12_seenFrom_b41 x1 x2 x5 s0 (0 : Int64) h E G))
noncomputable def f_X12_seenFrom_b5 (x1 : Int32) (x2 : Int32) (x3 : Int64) (x5 : Int32) (h : qa_M) : Option ((Int32 × Int32 × Int64 × Int32 × qa_M) ⊕ (Int64 × qa_M)) :=
  if (36 : Int32) ≤ x5 then (
   qup (some (x3, h)))
  else (
   qbn (m_X12_isThere x5 h) (fun (c16 : Int32) (h16 : qa_M) =>
   if c16 = 0 then (
    f_X12_seenFrom_b40 x1 x2 x5 x3 h16)
   else (
    qbn (m_X12_isSeen x1 x5 x2 h16) (fun (c27 : Int32) (h27 : qa_M) =>
    if c27 = 0 then (
     f_X12_seenFrom_b40 x1 x2 x5 x3 h27)
    else (
     f_X12_seenFrom_b41 x1 x2 x5 x3 (q_lshl (1 : Int64) x5) h27)))))
set_option maxRecDepth 20000 in
theorem s_X12_seenFrom_b5 {l : Launch} {g : qa_G} {d : Nat} {rz : Option Value} {hz : qa_M} (x1 : Int32) (x2 : Int32) (x3 : Int64) (x5 : Int32) (h : qa_M) {z : ((Int32 × Int32 × Int64 × Int32 × qa_M) ⊕ (Int64 × qa_M))} (E : f_X12_seenFrom_b5 x1 x2 x3 x5 h = some z) (G : (Sum.elim (fun (sz : Int32 × Int32 × Int64 × Int32 × qa_M) => qt_At l g (yX12_seenFrom, cX12_seenFrom, 6, (some .long)) (d + 3) 0 0 5 [(0, .ref (g.1 + 119)), (1, .int sz.1), (2, .int sz.2.1), (3, .long sz.2.2.1), (5, .int sz.2.2.2.1)] [] sz.2.2.2.2 rz hz) (qg_l rz hz)) z) : qt_At l g (yX12_seenFrom, cX12_seenFrom, 6, (some .long)) (d + 3) 0 0 5 [(0, .ref (g.1 + 119)), (1, .int x1), (2, .int x2), (3, .long x3), (5, .int x5)] [] h rz hz := by
  unfold f_X12_seenFrom_b5 at E
  refine qt_iload 4 dX12_seenFrom_5 rfl ?_
  refine qt_bipush dX12_seenFrom_7 cb_36 ?_
  refine qt_icmp_ge 49 dX12_seenFrom_9 (by decide) E (fun E => ?_) (fun E => ?_)
  · refine qt_lload_n 3 dX12_seenFrom_49 rfl rfl ?_
    obtain ⟨z0_, E, G⟩ := qup_g E G
    exact qt_lreturn rfl (Nat.le_of_ble_eq_true rfl) dX12_seenFrom_50 E G
  · refine qt_lload_n 3 dX12_seenFrom_12 rfl rfl ?_
    refine qt_aload_n 0 dX12_seenFrom_13 rfl rfl ?_
    refine qt_iload 4 dX12_seenFrom_14 rfl ?_
    obtain ⟨c16, h16, e16, E⟩ := qbn_el E
    refine qt_callVi (b2 := 0) [.int x5] (c_X12_isThere x5 h e16) cv_RX12_187 (wl_119 h) rfl rfl rfl (Nat.le_of_ble_eq_true rfl) (Nat.le_of_ble_eq_true rfl) dX12_seenFrom_16 ?_
    refine qt_if_eq 40 dX12_seenFrom_19 (by decide) E (fun E => ?_) (fun E => ?_)
    · exact qt_sub _ [0, 1, 2, 4] rfl ((s_X12_seenFrom_b40 x1 x2 x5 x3 h16 E G))
    · refine qt_aload_n 0 dX12_seenFrom_22 rfl rfl ?_
      refine qt_iload_n 1 dX12_seenFrom_23 rfl rfl ?_
      refine qt_iload 4 dX12_seenFrom_24 rfl ?_
      refine qt_iload_n 2 dX12_seenFrom_26 rfl rfl ?_
      obtain ⟨c27, h27, e27, E⟩ := qbn_el E
      refine qt_callVi (b2 := 0) [.int x1, .int x5, .int x2] (c_X12_isSeen x1 x5 x2 h16 e27) cv_RX12_190 (wl_119 h16) rfl rfl rfl (Nat.le_of_ble_eq_true rfl) (Nat.le_of_ble_eq_true rfl) dX12_seenFrom_27 ?_
      refine qt_if_eq 40 dX12_seenFrom_30 (by decide) E (fun E => ?_) (fun E => ?_)
      · exact qt_sub _ [0, 1, 2, 4] rfl ((s_X12_seenFrom_b40 x1 x2 x5 x3 h27 E G))
      · refine qt_lconst dX12_seenFrom_33 cl_1 ?_
        refine qt_iload 4 dX12_seenFrom_34 rfl ?_
        refine qt_lshl dX12_seenFrom_36 ?_
        refine qt_goto 41 dX12_seenFrom_37 (by decide) ?_
        exact qt_sub _ [0, 1, 2, 4] rfl ((s_X12_seenFrom_b41 x1 x2 x5 x3 (q_lshl (1 : Int64) x5) h27 E G))
noncomputable def f_X12_seenFrom_b5_loop (x1 : Int32) (x2 : Int32) (x3 : Int64) (x5 : Int32) (h : qa_M) : Option (Int64 × qa_M) := qlp (fun sz : Int32 × Int32 × Int64 × Int32 × qa_M => f_X12_seenFrom_b5 sz.1 sz.2.1 sz.2.2.1 sz.2.2.2.1 sz.2.2.2.2) (x1, x2, x3, x5, h)
theorem s_X12_seenFrom_b5_loop {l : Launch} {g : qa_G} {d : Nat} {rz : Option Value} {hz : qa_M} (x1 : Int32) (x2 : Int32) (x3 : Int64) (x5 : Int32) (h : qa_M) {z : (Int64 × qa_M)} (E : f_X12_seenFrom_b5_loop x1 x2 x3 x5 h = some z) (G : (qg_l rz hz) z) : qt_At l g (yX12_seenFrom, cX12_seenFrom, 6, (some .long)) (d + 3) 0 0 5 [(0, .ref (g.1 + 119)), (1, .int x1), (2, .int x2), (3, .long x3), (5, .int x5)] [] h rz hz :=
  qlp_ind (fun sz : Int32 × Int32 × Int64 × Int32 × qa_M => qt_At l g (yX12_seenFrom, cX12_seenFrom, 6, (some .long)) (d + 3) 0 0 5 [(0, .ref (g.1 + 119)), (1, .int sz.1), (2, .int sz.2.1), (3, .long sz.2.2.1), (5, .int sz.2.2.2.1)] [] sz.2.2.2.2 rz hz) (fun sz E => s_X12_seenFrom_b5 sz.1 sz.2.1 sz.2.2.1 sz.2.2.2.1 sz.2.2.2.2 E G) (fun sz sz2 E ih => s_X12_seenFrom_b5 sz.1 sz.2.1 sz.2.2.1 sz.2.2.2.1 sz.2.2.2.2 E ih) (x1, x2, x3, x5, h) E
noncomputable def m_X12_seenFrom (x1 : Int32) (x2 : Int32) (h : qa_M) : Option (Int64 × qa_M) :=
  qbd (0 : Int64) (fun v1 : Int64 =>
  qbd (0 : Int32) (fun v3 : Int32 =>
  f_X12_seenFrom_b5_loop x1 x2 v1 v3 h))
set_option maxRecDepth 20000 in
theorem c_X12_seenFrom {l : Launch} {g : qa_G} {d : Nat} (x1 : Int32) (x2 : Int32) (h : qa_M) {c : Int64} {h1 : qa_M} (E : m_X12_seenFrom x1 x2 h = some (c, h1)) : qt_Met l g (yX12_seenFrom, cX12_seenFrom, 6, (some .long)) (d + 3) 0 [.ref (g.1 + 119), .int x1, .int x2] h (some (.long c)) h1 := by
  refine qt_Met.of (plainFor_of_name (by decide)) (Nat.le_of_ble_eq_true rfl) ?_
  have G : qg_l (some (.long c)) h1 ((c, h1)) := ⟨rfl, rfl⟩
  unfold m_X12_seenFrom at E
  refine qt_lconst dX12_seenFrom_0 cl_0 ?_
  refine qt_lstore_n (fun v1 => [(3, .long v1), (0, .ref (g.1 + 119)), (1, .int x1), (2, .int x2)]) dX12_seenFrom_1 rfl (Nat.le_of_ble_eq_true rfl) (fun _ => rfl) E (fun v1 E => ?_)
  refine qt_iconst dX12_seenFrom_2 ci_0 ?_
  refine qt_istore (fun v3 => [(5, .int v3), (3, .long v1), (0, .ref (g.1 + 119)), (1, .int x1), (2, .int x2)]) dX12_seenFrom_3 (Nat.le_of_ble_eq_true rfl) (fun _ => rfl) E (fun v3 E => ?_)
  exact qt_sub _ [2, 3, 4, 1, 0] rfl ((s_X12_seenFrom_b5_loop x1 x2 v1 v3 h E G))
noncomputable def m_X12_sees (x1 : Int32) (h : qa_M) : Option (Int64 × qa_M) :=
  qbn (m_X12_isHill x1 h) (fun (c2 : Int32) (h2 : qa_M) =>
  if c2 = 0 then (
   some ((-1 : Int64), h2))
  else (
   qck x1 8 (
   qck x1 8 (
   qbn (m_X12_seenFrom (h2.1 122 x1.toNatClampNeg) (h2.1 123 x1.toNatClampNeg) h2) (fun (c21 : Int64) (h21 : qa_M) =>
   some (c21, h21))))))
set_option maxRecDepth 20000 in
theorem c_X12_sees {l : Launch} {g : qa_G} {d : Nat} (x1 : Int32) (h : qa_M) {c : Int64} {h1 : qa_M} (E : m_X12_sees x1 h = some (c, h1)) : qt_Met l g (yX12_sees, cX12_sees, 2, (some .long)) (d + 4) 0 [.ref (g.1 + 119), .int x1] h (some (.long c)) h1 := by
  refine qt_Met.of (plainFor_of_name (by decide)) (Nat.le_of_ble_eq_true rfl) ?_
  have G : qg_l (some (.long c)) h1 ((c, h1)) := ⟨rfl, rfl⟩
  unfold m_X12_sees at E
  refine qt_aload_n 0 dX12_sees_0 rfl rfl ?_
  refine qt_iload_n 1 dX12_sees_1 rfl rfl ?_
  obtain ⟨c2, h2, e2, E⟩ := qbn_el E
  refine qt_callVi (b2 := 0) [.int x1] (c_X12_isHill x1 h e2) cv_RX12_194 (wl_119 h) rfl rfl rfl (Nat.le_of_ble_eq_true rfl) (Nat.le_of_ble_eq_true rfl) dX12_sees_2 ?_
  refine qt_if_eq 27 dX12_sees_5 (by decide) E (fun E => ?_) (fun E => ?_)
  · refine qt_ldc2 tb_1572 dX12_sees_27 ?_
    exact qt_lreturn rfl (Nat.le_of_ble_eq_true rfl) dX12_sees_30 E G
  · refine qt_aload_n 0 dX12_sees_8 rfl rfl ?_
    refine qt_aload_n 0 dX12_sees_9 rfl rfl ?_
    refine qt_getS 122 (wl_119 h2) fe_RX12_16 rfl dX12_sees_10 ?_
    refine qt_iload_n 1 dX12_sees_13 rfl rfl ?_
    refine qt_iald (wl_122 h2) dX12_sees_14 E (fun E => ?_)
    refine qt_aload_n 0 dX12_sees_15 rfl rfl ?_
    refine qt_getS 123 (wl_119 h2) fe_RX12_19 rfl dX12_sees_16 ?_
    refine qt_iload_n 1 dX12_sees_19 rfl rfl ?_
    refine qt_iald (wl_123 h2) dX12_sees_20 E (fun E => ?_)
    obtain ⟨c21, h21, e21, E⟩ := qbn_el E
    refine qt_callVl (b2 := 0) [.int (h2.1 122 x1.toNatClampNeg), .int (h2.1 123 x1.toNatClampNeg)] (c_X12_seenFrom (h2.1 122 x1.toNatClampNeg) (h2.1 123 x1.toNatClampNeg) h2 e21) cv_RX12_197 (wl_119 h2) rfl rfl rfl (Nat.le_of_ble_eq_true rfl) (Nat.le_of_ble_eq_true rfl) dX12_sees_21 ?_
    refine qt_goto 30 dX12_sees_24 (by decide) ?_
    exact qt_lreturn rfl (Nat.le_of_ble_eq_true rfl) dX12_sees_30 E G
noncomputable def f_X12_hidden_b47 (x1 : Int64) (x3 : Int32) (h : qa_M) : Option ((Int64 × Int32 × qa_M) ⊕ (Int64 × qa_M)) :=
  qck (2 : Int32) 8 (
  if (h.1 120 (2 : Int32).toNatClampNeg) ≤ x3 then (
   qup (some (x1, h)))
  else (
   qck x3 8 (
   qck x3 8 (
   qbn (m_X12_seenFrom (h.1 122 x3.toNatClampNeg) (h.1 123 x3.toNatClampNeg) h) (fun (c71 : Int64) (h71 : qa_M) =>
   qbd (x1 &&& (c71 ^^^ (-1 : Int64))) (fun v79 : Int64 =>
   qbd (x3 + (1 : Int32)) (fun v80 : Int32 =>
   some (.inl (v79, v80, h71)))))))))
set_option maxRecDepth 20000 in
theorem s_X12_hidden_b47 {l : Launch} {g : qa_G} {d : Nat} {rz : Option Value} {hz : qa_M} (x1 : Int64) (x3 : Int32) (h : qa_M) {z : ((Int64 × Int32 × qa_M) ⊕ (Int64 × qa_M))} (E : f_X12_hidden_b47 x1 x3 h = some z) (G : (Sum.elim (fun (sz : Int64 × Int32 × qa_M) => qt_At l g (yX12_hidden, cX12_hidden, 4, (some .long)) (d + 4) 0 0 47 [(0, .ref (g.1 + 119)), (1, .long sz.1), (3, .int sz.2.1)] [] sz.2.2 rz hz) (qg_l rz hz)) z) : qt_At l g (yX12_hidden, cX12_hidden, 4, (some .long)) (d + 4) 0 0 47 [(0, .ref (g.1 + 119)), (1, .long x1), (3, .int x3)] [] h rz hz := by
  unfold f_X12_hidden_b47 at E
  refine qt_iload_n 2 dX12_hidden_47 rfl rfl ?_
  refine qt_aload_n 0 dX12_hidden_48 rfl rfl ?_
  refine qt_getS 120 (wl_119 h) fe_RX12_7 rfl dX12_hidden_49 ?_
  refine qt_iconst dX12_hidden_52 ci_2 ?_
  refine qt_iald (wl_120 h) dX12_hidden_53 E (fun E => ?_)
  refine qt_icmp_ge 86 dX12_hidden_54 (by decide) E (fun E => ?_) (fun E => ?_)
  · refine qt_lload_n 1 dX12_hidden_86 rfl rfl ?_
    obtain ⟨z0_, E, G⟩ := qup_g E G
    exact qt_lreturn rfl (Nat.le_of_ble_eq_true rfl) dX12_hidden_87 E G
  · refine qt_lload_n 1 dX12_hidden_57 rfl rfl ?_
    refine qt_aload_n 0 dX12_hidden_58 rfl rfl ?_
    refine qt_aload_n 0 dX12_hidden_59 rfl rfl ?_
    refine qt_getS 122 (wl_119 h) fe_RX12_16 rfl dX12_hidden_60 ?_
    refine qt_iload_n 2 dX12_hidden_63 rfl rfl ?_
    refine qt_iald (wl_122 h) dX12_hidden_64 E (fun E => ?_)
    refine qt_aload_n 0 dX12_hidden_65 rfl rfl ?_
    refine qt_getS 123 (wl_119 h) fe_RX12_19 rfl dX12_hidden_66 ?_
    refine qt_iload_n 2 dX12_hidden_69 rfl rfl ?_
    refine qt_iald (wl_123 h) dX12_hidden_70 E (fun E => ?_)
    obtain ⟨c71, h71, e71, E⟩ := qbn_el E
    refine qt_callVl (b2 := 0) [.int (h.1 122 x3.toNatClampNeg), .int (h.1 123 x3.toNatClampNeg)] (c_X12_seenFrom (h.1 122 x3.toNatClampNeg) (h.1 123 x3.toNatClampNeg) h e71) cv_RX12_197 (wl_119 h) rfl rfl rfl (Nat.le_of_ble_eq_true rfl) (Nat.le_of_ble_eq_true rfl) dX12_hidden_71 ?_
    refine qt_ldc2 tb_1572 dX12_hidden_74 ?_
    refine qt_lxor dX12_hidden_77 ?_
    refine qt_land dX12_hidden_78 ?_
    refine qt_lstore_n (fun v79 => [(1, .long v79), (0, .ref (g.1 + 119)), (3, .int x3)]) dX12_hidden_79 rfl (Nat.le_of_ble_eq_true rfl) (fun _ => rfl) E (fun v79 E => ?_)
    refine qt_iinc 2 (fun v80 => [(3, .int v80), (1, .long v79), (0, .ref (g.1 + 119))]) dX12_hidden_80 rfl ci_1 (Nat.le_of_ble_eq_true rfl) (fun _ => rfl) E (fun v80 E => ?_)
    refine qt_goto 47 dX12_hidden_83 (by decide) ?_
    cases E
    exact qt_sub _ [2, 1, 0] rfl (G)
noncomputable def f_X12_hidden_b47_loop (x1 : Int64) (x3 : Int32) (h : qa_M) : Option (Int64 × qa_M) := qlp (fun sz : Int64 × Int32 × qa_M => f_X12_hidden_b47 sz.1 sz.2.1 sz.2.2) (x1, x3, h)
theorem s_X12_hidden_b47_loop {l : Launch} {g : qa_G} {d : Nat} {rz : Option Value} {hz : qa_M} (x1 : Int64) (x3 : Int32) (h : qa_M) {z : (Int64 × qa_M)} (E : f_X12_hidden_b47_loop x1 x3 h = some z) (G : (qg_l rz hz) z) : qt_At l g (yX12_hidden, cX12_hidden, 4, (some .long)) (d + 4) 0 0 47 [(0, .ref (g.1 + 119)), (1, .long x1), (3, .int x3)] [] h rz hz :=
  qlp_ind (fun sz : Int64 × Int32 × qa_M => qt_At l g (yX12_hidden, cX12_hidden, 4, (some .long)) (d + 4) 0 0 47 [(0, .ref (g.1 + 119)), (1, .long sz.1), (3, .int sz.2.1)] [] sz.2.2 rz hz) (fun sz E => s_X12_hidden_b47 sz.1 sz.2.1 sz.2.2 E G) (fun sz sz2 E ih => s_X12_hidden_b47 sz.1 sz.2.1 sz.2.2 E ih) (x1, x3, h) E
noncomputable def f_X12_hidden_b45 (x1 : Int64) (h : qa_M) : Option (Int64 × qa_M) :=
  qbd (0 : Int32) (fun v46 : Int32 =>
  f_X12_hidden_b47_loop x1 v46 h)
set_option maxRecDepth 20000 in
theorem s_X12_hidden_b45 {l : Launch} {g : qa_G} {d : Nat} {rz : Option Value} {hz : qa_M} (x1 : Int64) (h : qa_M) {z : (Int64 × qa_M)} (E : f_X12_hidden_b45 x1 h = some z) (G : (qg_l rz hz) z) : qt_At l g (yX12_hidden, cX12_hidden, 4, (some .long)) (d + 4) 0 0 45 [(0, .ref (g.1 + 119)), (1, .long x1)] [] h rz hz := by
  unfold f_X12_hidden_b45 at E
  refine qt_iconst dX12_hidden_45 ci_0 ?_
  refine qt_istore_n (fun v46 => [(3, .int v46), (0, .ref (g.1 + 119)), (1, .long x1)]) dX12_hidden_46 rfl (Nat.le_of_ble_eq_true rfl) (fun _ => rfl) E (fun v46 E => ?_)
  exact qt_sub _ [1, 2, 0] rfl ((s_X12_hidden_b47_loop x1 v46 h E G))
noncomputable def f_X12_hidden_b37 (x3 : Int32) (s0 : Int64) (s1 : Int64) (h : qa_M) : Option ((Int64 × Int32 × qa_M) ⊕ (Int64 × qa_M)) :=
  qbd (s0 ||| s1) (fun v38 : Int64 =>
  qbd (x3 + (1 : Int32)) (fun v39 : Int32 =>
  some (.inl (v38, v39, h))))
set_option maxRecDepth 20000 in
theorem s_X12_hidden_b37 {l : Launch} {g : qa_G} {d : Nat} {rz : Option Value} {hz : qa_M} (x3 : Int32) (s0 : Int64) (s1 : Int64) (h : qa_M) {z : ((Int64 × Int32 × qa_M) ⊕ (Int64 × qa_M))} (E : f_X12_hidden_b37 x3 s0 s1 h = some z) (G : (Sum.elim (fun (sz : Int64 × Int32 × qa_M) => qt_At l g (yX12_hidden, cX12_hidden, 4, (some .long)) (d + 4) 0 0 15 [(0, .ref (g.1 + 119)), (1, .long sz.1), (3, .int sz.2.1)] [] sz.2.2 rz hz) (qg_l rz hz)) z) : qt_At l g (yX12_hidden, cX12_hidden, 4, (some .long)) (d + 4) 0 0 37 [(0, .ref (g.1 + 119)), (3, .int x3)] [.long s1, .long s0] h rz hz := by
  unfold f_X12_hidden_b37 at E
  refine qt_lor dX12_hidden_37 ?_
  refine qt_lstore_n (fun v38 => [(1, .long v38), (0, .ref (g.1 + 119)), (3, .int x3)]) dX12_hidden_38 rfl (Nat.le_of_ble_eq_true rfl) (fun _ => rfl) E (fun v38 E => ?_)
  refine qt_iinc 2 (fun v39 => [(3, .int v39), (1, .long v38), (0, .ref (g.1 + 119))]) dX12_hidden_39 rfl ci_1 (Nat.le_of_ble_eq_true rfl) (fun _ => rfl) E (fun v39 E => ?_)
  refine qt_goto 15 dX12_hidden_42 (by decide) ?_
  cases E
  exact qt_sub _ [2, 1, 0] rfl (G)
noncomputable def f_X12_hidden_b15 (x1 : Int64) (x3 : Int32) (h : qa_M) : Option ((Int64 × Int32 × qa_M) ⊕ (Int64 × qa_M)) :=
  if (36 : Int32) ≤ x3 then (
   qup (f_X12_hidden_b45 x1 h))
  else (
   qbn (m_X12_isThere x3 h) (fun (c24 : Int32) (h24 : qa_M) =>
   if c24 = 0 then (
    f_X12_hidden_b37 x3 x1 (0 : Int64) h24)
   else (
    f_X12_hidden_b37 x3 x1 (q_lshl (1 : Int64) x3) h24)))
set_option maxRecDepth 20000 in
theorem s_X12_hidden_b15 {l : Launch} {g : qa_G} {d : Nat} {rz : Option Value} {hz : qa_M} (x1 : Int64) (x3 : Int32) (h : qa_M) {z : ((Int64 × Int32 × qa_M) ⊕ (Int64 × qa_M))} (E : f_X12_hidden_b15 x1 x3 h = some z) (G : (Sum.elim (fun (sz : Int64 × Int32 × qa_M) => qt_At l g (yX12_hidden, cX12_hidden, 4, (some .long)) (d + 4) 0 0 15 [(0, .ref (g.1 + 119)), (1, .long sz.1), (3, .int sz.2.1)] [] sz.2.2 rz hz) (qg_l rz hz)) z) : qt_At l g (yX12_hidden, cX12_hidden, 4, (some .long)) (d + 4) 0 0 15 [(0, .ref (g.1 + 119)), (1, .long x1), (3, .int x3)] [] h rz hz := by
  unfold f_X12_hidden_b15 at E
  refine qt_iload_n 2 dX12_hidden_15 rfl rfl ?_
  refine qt_bipush dX12_hidden_16 cb_36 ?_
  refine qt_icmp_ge 45 dX12_hidden_18 (by decide) E (fun E => ?_) (fun E => ?_)
  · obtain ⟨z0_, E, G⟩ := qup_g E G
    exact qt_sub _ [0, 1] rfl ((s_X12_hidden_b45 x1 h E G))
  · refine qt_lload_n 1 dX12_hidden_21 rfl rfl ?_
    refine qt_aload_n 0 dX12_hidden_22 rfl rfl ?_
    refine qt_iload_n 2 dX12_hidden_23 rfl rfl ?_
    obtain ⟨c24, h24, e24, E⟩ := qbn_el E
    refine qt_callVi (b2 := 0) [.int x3] (c_X12_isThere x3 h e24) cv_RX12_187 (wl_119 h) rfl rfl rfl (Nat.le_of_ble_eq_true rfl) (Nat.le_of_ble_eq_true rfl) dX12_hidden_24 ?_
    refine qt_if_eq 36 dX12_hidden_27 (by decide) E (fun E => ?_) (fun E => ?_)
    · refine qt_lconst dX12_hidden_36 cl_0 ?_
      exact qt_sub _ [0, 2] rfl ((s_X12_hidden_b37 x3 x1 (0 : Int64) h24 E G))
    · refine qt_lconst dX12_hidden_30 cl_1 ?_
      refine qt_iload_n 2 dX12_hidden_31 rfl rfl ?_
      refine qt_lshl dX12_hidden_32 ?_
      refine qt_goto 37 dX12_hidden_33 (by decide) ?_
      exact qt_sub _ [0, 2] rfl ((s_X12_hidden_b37 x3 x1 (q_lshl (1 : Int64) x3) h24 E G))
noncomputable def f_X12_hidden_b15_loop (x1 : Int64) (x3 : Int32) (h : qa_M) : Option (Int64 × qa_M) := qlp (fun sz : Int64 × Int32 × qa_M => f_X12_hidden_b15 sz.1 sz.2.1 sz.2.2) (x1, x3, h)
theorem s_X12_hidden_b15_loop {l : Launch} {g : qa_G} {d : Nat} {rz : Option Value} {hz : qa_M} (x1 : Int64) (x3 : Int32) (h : qa_M) {z : (Int64 × qa_M)} (E : f_X12_hidden_b15_loop x1 x3 h = some z) (G : (qg_l rz hz) z) : qt_At l g (yX12_hidden, cX12_hidden, 4, (some .long)) (d + 4) 0 0 15 [(0, .ref (g.1 + 119)), (1, .long x1), (3, .int x3)] [] h rz hz :=
  qlp_ind (fun sz : Int64 × Int32 × qa_M => qt_At l g (yX12_hidden, cX12_hidden, 4, (some .long)) (d + 4) 0 0 15 [(0, .ref (g.1 + 119)), (1, .long sz.1), (3, .int sz.2.1)] [] sz.2.2 rz hz) (fun sz E => s_X12_hidden_b15 sz.1 sz.2.1 sz.2.2 E G) (fun sz sz2 E ih => s_X12_hidden_b15 sz.1 sz.2.1 sz.2.2 E ih) (x1, x3, h) E
noncomputable def m_X12_hidden (h : qa_M) : Option (Int64 × qa_M) :=
  qbn (m_X12_isLand h) (fun (c1 : Int32) (h1 : qa_M) =>
  if c1 = 0 then (
   some ((-1 : Int64), h1))
  else (
   qbd (0 : Int64) (fun v12 : Int64 =>
   qbd (0 : Int32) (fun v14 : Int32 =>
   f_X12_hidden_b15_loop v12 v14 h1))))
set_option maxRecDepth 20000 in
theorem c_X12_hidden {l : Launch} {g : qa_G} {d : Nat} (h : qa_M) {c : Int64} {h1 : qa_M} (E : m_X12_hidden h = some (c, h1)) : qt_Met l g (yX12_hidden, cX12_hidden, 4, (some .long)) (d + 4) 0 [.ref (g.1 + 119)] h (some (.long c)) h1 := by
  refine qt_Met.of (plainFor_of_name (by decide)) (Nat.le_of_ble_eq_true rfl) ?_
  have G : qg_l (some (.long c)) h1 ((c, h1)) := ⟨rfl, rfl⟩
  unfold m_X12_hidden at E
  refine qt_aload_n 0 dX12_hidden_0 rfl rfl ?_
  obtain ⟨c1, h1, e1, E⟩ := qbn_el E
  refine qt_callVi (b2 := 0) [] (c_X12_isLand h e1) cv_RX12_203 (wl_119 h) rfl rfl rfl (Nat.le_of_ble_eq_true rfl) (Nat.le_of_ble_eq_true rfl) dX12_hidden_1 ?_
  refine qt_if_ne 11 dX12_hidden_4 (by decide) E (fun E => ?_) (fun E => ?_)
  · refine qt_lconst dX12_hidden_11 cl_0 ?_
    refine qt_lstore_n (fun v12 => [(1, .long v12), (0, .ref (g.1 + 119))]) dX12_hidden_12 rfl (Nat.le_of_ble_eq_true rfl) (fun _ => rfl) E (fun v12 E => ?_)
    refine qt_iconst dX12_hidden_13 ci_0 ?_
    refine qt_istore_n (fun v14 => [(3, .int v14), (1, .long v12), (0, .ref (g.1 + 119))]) dX12_hidden_14 rfl (Nat.le_of_ble_eq_true rfl) (fun _ => rfl) E (fun v14 E => ?_)
    exact qt_sub _ [2, 1, 0] rfl ((s_X12_hidden_b15_loop v12 v14 h1 E G))
  · refine qt_ldc2 tb_1572 dX12_hidden_7 ?_
    exact qt_lreturn rfl (Nat.le_of_ble_eq_true rfl) dX12_hidden_10 E G
noncomputable def m_X12_notes (x1 : Int32) (x2 : Int32) (h : qa_M) : Option (Int32 × qa_M) :=
  qck (5 : Int32) 8 (
  qbn (m_X12_in x1.toInt64 (0 : Int64) (((h.1 120 (5 : Int32).toNatClampNeg) - (1 : Int32)).toInt64) h) (fun (c12 : Int32) (h12 : qa_M) =>
  if c12 = 0 then (
   some ((-2 : Int32), h12))
  else (
   if x2 = (0 : Int32) then (
    qck x1 10 (
    some (h12.1 127 x1.toNatClampNeg, h12)))
   else (
   if x2 = (1 : Int32) then (
    qck x1 10 (
    some (h12.1 128 x1.toNatClampNeg, h12)))
   else (
   if x2 = (2 : Int32) then (
    qck x1 10 (
    some (h12.1 129 x1.toNatClampNeg, h12)))
   else (
   if x2 = (3 : Int32) then (
    qck x1 10 (
    some (h12.1 130 x1.toNatClampNeg, h12)))
   else (
   if x2 = (4 : Int32) then (
    qck x1 10 (
    some (h12.1 131 x1.toNatClampNeg, h12)))
   else (
   some ((-2 : Int32), h12)))))))))
set_option maxRecDepth 20000 in
theorem c_X12_notes {l : Launch} {g : qa_G} {d : Nat} (x1 : Int32) (x2 : Int32) (h : qa_M) {c : Int32} {h1 : qa_M} (E : m_X12_notes x1 x2 h = some (c, h1)) : qt_Met l g (yX12_notes, cX12_notes, 3, (some .int)) (d + 1) 0 [.ref (g.1 + 119), .int x1, .int x2] h (some (.int c)) h1 := by
  refine qt_Met.of (plainFor_of_name (by decide)) (Nat.le_of_ble_eq_true rfl) ?_
  have G : qg_i (some (.int c)) h1 ((c, h1)) := ⟨rfl, rfl⟩
  unfold m_X12_notes at E
  refine qt_iload_n 1 dX12_notes_0 rfl rfl ?_
  refine qt_i2l dX12_notes_1 ?_
  refine qt_lconst dX12_notes_2 cl_0 ?_
  refine qt_aload_n 0 dX12_notes_3 rfl rfl ?_
  refine qt_getS 120 (wl_119 h) fe_RX12_7 rfl dX12_notes_4 ?_
  refine qt_iconst dX12_notes_7 ci_5 ?_
  refine qt_iald (wl_120 h) dX12_notes_8 E (fun E => ?_)
  refine qt_iconst dX12_notes_9 ci_1 ?_
  refine qt_isub dX12_notes_10 ?_
  refine qt_i2l dX12_notes_11 ?_
  obtain ⟨c12, h12, e12, E⟩ := qbn_el E
  refine qt_callSi (b2 := 0) [.long x1.toInt64, .long (0 : Int64), .long (((h.1 120 (5 : Int32).toNatClampNeg) - (1 : Int32)).toInt64)] (c_X12_in x1.toInt64 (0 : Int64) (((h.1 120 (5 : Int32).toNatClampNeg) - (1 : Int32)).toInt64) h e12) cv_RX12_161 rfl (Nat.le_of_ble_eq_true rfl) (Nat.le_of_ble_eq_true rfl) dX12_notes_12 ?_
  refine qt_if_ne 21 dX12_notes_15 (by decide) E (fun E => ?_) (fun E => ?_)
  · refine qt_iload_n 2 dX12_notes_21 rfl rfl ?_
    by_cases c22_0 : x2 = (0 : Int32)
    · replace E := qif_t c22_0 E
      refine qt_tabIn (off := 34) 56 dX12_notes_22 c22_0 (by decide) (by decide) rfl (by decide) ?_
      refine qt_aload_n 0 dX12_notes_56 rfl rfl ?_
      refine qt_getS 127 (wl_119 h12) fe_RX12_31 rfl dX12_notes_57 ?_
      refine qt_iload_n 1 dX12_notes_60 rfl rfl ?_
      refine qt_iald (wl_127 h12) dX12_notes_61 E (fun E => ?_)
      exact qt_ireturn rfl (Nat.le_of_ble_eq_true rfl) dX12_notes_62 E G
    replace E := qif_f c22_0 E
    by_cases c22_1 : x2 = (1 : Int32)
    · replace E := qif_t c22_1 E
      refine qt_tabIn (off := 41) 63 dX12_notes_22 c22_1 (by decide) (by decide) rfl (by decide) ?_
      refine qt_aload_n 0 dX12_notes_63 rfl rfl ?_
      refine qt_getS 128 (wl_119 h12) fe_RX12_34 rfl dX12_notes_64 ?_
      refine qt_iload_n 1 dX12_notes_67 rfl rfl ?_
      refine qt_iald (wl_128 h12) dX12_notes_68 E (fun E => ?_)
      exact qt_ireturn rfl (Nat.le_of_ble_eq_true rfl) dX12_notes_69 E G
    replace E := qif_f c22_1 E
    by_cases c22_2 : x2 = (2 : Int32)
    · replace E := qif_t c22_2 E
      refine qt_tabIn (off := 48) 70 dX12_notes_22 c22_2 (by decide) (by decide) rfl (by decide) ?_
      refine qt_aload_n 0 dX12_notes_70 rfl rfl ?_
      refine qt_getS 129 (wl_119 h12) fe_RX12_37 rfl dX12_notes_71 ?_
      refine qt_iload_n 1 dX12_notes_74 rfl rfl ?_
      refine qt_iald (wl_129 h12) dX12_notes_75 E (fun E => ?_)
      exact qt_ireturn rfl (Nat.le_of_ble_eq_true rfl) dX12_notes_76 E G
    replace E := qif_f c22_2 E
    by_cases c22_3 : x2 = (3 : Int32)
    · replace E := qif_t c22_3 E
      refine qt_tabIn (off := 55) 77 dX12_notes_22 c22_3 (by decide) (by decide) rfl (by decide) ?_
      refine qt_aload_n 0 dX12_notes_77 rfl rfl ?_
      refine qt_getS 130 (wl_119 h12) fe_RX12_40 rfl dX12_notes_78 ?_
      refine qt_iload_n 1 dX12_notes_81 rfl rfl ?_
      refine qt_iald (wl_130 h12) dX12_notes_82 E (fun E => ?_)
      exact qt_ireturn rfl (Nat.le_of_ble_eq_true rfl) dX12_notes_83 E G
    replace E := qif_f c22_3 E
    by_cases c22_4 : x2 = (4 : Int32)
    · replace E := qif_t c22_4 E
      refine qt_tabIn (off := 62) 84 dX12_notes_22 c22_4 (by decide) (by decide) rfl (by decide) ?_
      refine qt_aload_n 0 dX12_notes_84 rfl rfl ?_
      refine qt_getS 131 (wl_119 h12) fe_RX12_43 rfl dX12_notes_85 ?_
      refine qt_iload_n 1 dX12_notes_88 rfl rfl ?_
      refine qt_iald (wl_131 h12) dX12_notes_89 E (fun E => ?_)
      exact qt_ireturn rfl (Nat.le_of_ble_eq_true rfl) dX12_notes_90 E G
    replace E := qif_f c22_4 E
    have e22_0 : (x2 : Int32).toInt ≠ 0 := fun q => c22_0 (Int32.toInt_inj.mp (q.trans (by decide)))
    have e22_1 : (x2 : Int32).toInt ≠ 1 := fun q => c22_1 (Int32.toInt_inj.mp (q.trans (by decide)))
    have e22_2 : (x2 : Int32).toInt ≠ 2 := fun q => c22_2 (Int32.toInt_inj.mp (q.trans (by decide)))
    have e22_3 : (x2 : Int32).toInt ≠ 3 := fun q => c22_3 (Int32.toInt_inj.mp (q.trans (by decide)))
    have e22_4 : (x2 : Int32).toInt ≠ 4 := fun q => c22_4 (Int32.toInt_inj.mp (q.trans (by decide)))
    refine qt_tabOut 91 dX12_notes_22 (by omega) (by decide) ?_
    refine qt_bipush dX12_notes_91 cb_m2 ?_
    exact qt_ireturn rfl (Nat.le_of_ble_eq_true rfl) dX12_notes_93 E G
  · refine qt_bipush dX12_notes_18 cb_m2 ?_
    exact qt_ireturn rfl (Nat.le_of_ble_eq_true rfl) dX12_notes_20 E G
noncomputable def m_X12_isSet (x1 : Int32) (h : qa_M) : Option (Int32 × qa_M) :=
  qbn (m_X12_isLand h) (fun (c1 : Int32) (h1 : qa_M) =>
  if c1 = 0 then (
   some ((0 : Int32), h1))
  else (
   qck (5 : Int32) 8 (
   qbn (m_X12_in x1.toInt64 (0 : Int64) ((((1 : Int32) <<< ((h1.1 120 (5 : Int32).toNatClampNeg) &&& 31)) - (1 : Int32)).toInt64) h1) (fun (c21 : Int32) (h21 : qa_M) =>
   if c21 = 0 then (
    some ((0 : Int32), h21))
   else (
    some ((1 : Int32), h21))))))
set_option maxRecDepth 20000 in
theorem c_X12_isSet {l : Launch} {g : qa_G} {d : Nat} (x1 : Int32) (h : qa_M) {c : Int32} {h1 : qa_M} (E : m_X12_isSet x1 h = some (c, h1)) : qt_Met l g (yX12_isSet, cX12_isSet, 2, (some .boolean)) (d + 1) 0 [.ref (g.1 + 119), .int x1] h (some (.int c)) h1 := by
  refine qt_Met.of (plainFor_of_name (by decide)) (Nat.le_of_ble_eq_true rfl) ?_
  have G : qg_i (some (.int c)) h1 ((c, h1)) := ⟨rfl, rfl⟩
  unfold m_X12_isSet at E
  refine qt_aload_n 0 dX12_isSet_0 rfl rfl ?_
  obtain ⟨c1, h1, e1, E⟩ := qbn_el E
  refine qt_callVi (b2 := 0) [] (c_X12_isLand h e1) cv_RX12_203 (wl_119 h) rfl rfl rfl (Nat.le_of_ble_eq_true rfl) (Nat.le_of_ble_eq_true rfl) dX12_isSet_1 ?_
  refine qt_if_eq 31 dX12_isSet_4 (by decide) E (fun E => ?_) (fun E => ?_)
  · refine qt_iconst dX12_isSet_31 ci_0 ?_
    exact qt_zreturn rfl (Or.inl rfl) (Nat.le_of_ble_eq_true rfl) dX12_isSet_32 E G
  · refine qt_iload_n 1 dX12_isSet_7 rfl rfl ?_
    refine qt_i2l dX12_isSet_8 ?_
    refine qt_lconst dX12_isSet_9 cl_0 ?_
    refine qt_iconst dX12_isSet_10 ci_1 ?_
    refine qt_aload_n 0 dX12_isSet_11 rfl rfl ?_
    refine qt_getS 120 (wl_119 h1) fe_RX12_7 rfl dX12_isSet_12 ?_
    refine qt_iconst dX12_isSet_15 ci_5 ?_
    refine qt_iald (wl_120 h1) dX12_isSet_16 E (fun E => ?_)
    refine qt_ishl dX12_isSet_17 ?_
    refine qt_iconst dX12_isSet_18 ci_1 ?_
    refine qt_isub dX12_isSet_19 ?_
    refine qt_i2l dX12_isSet_20 ?_
    obtain ⟨c21, h21, e21, E⟩ := qbn_el E
    refine qt_callSi (b2 := 0) [.long x1.toInt64, .long (0 : Int64), .long ((((1 : Int32) <<< ((h1.1 120 (5 : Int32).toNatClampNeg) &&& 31)) - (1 : Int32)).toInt64)] (c_X12_in x1.toInt64 (0 : Int64) ((((1 : Int32) <<< ((h1.1 120 (5 : Int32).toNatClampNeg) &&& 31)) - (1 : Int32)).toInt64) h1 e21) cv_RX12_161 rfl (Nat.le_of_ble_eq_true rfl) (Nat.le_of_ble_eq_true rfl) dX12_isSet_21 ?_
    refine qt_if_eq 31 dX12_isSet_24 (by decide) E (fun E => ?_) (fun E => ?_)
    · refine qt_iconst dX12_isSet_31 ci_0 ?_
      exact qt_zreturn rfl (Or.inl rfl) (Nat.le_of_ble_eq_true rfl) dX12_isSet_32 E G
    · refine qt_iconst dX12_isSet_27 ci_1 ?_
      refine qt_goto 32 dX12_isSet_28 (by decide) ?_
      exact qt_zreturn rfl (Or.inr rfl) (Nat.le_of_ble_eq_true rfl) dX12_isSet_32 E G
noncomputable def f_X12_farOf_b131 (x1 : Int32) (x2 : Int32) (x3 : Int32) (x5 : Int32) (s0 : Int32) (h : qa_M) : Option ((Int32 × Int32 × Int32 × Int32 × Int32 × qa_M) ⊕ (Int32 × qa_M)) :=
  qbd s0 (fun v131 : Int32 =>
  qbd (x5 + (1 : Int32)) (fun v133 : Int32 =>
  some (.inl (x1, x2, x3, v131, v133, h))))
set_option maxRecDepth 20000 in
theorem s_X12_farOf_b131 {l : Launch} {g : qa_G} {d : Nat} {rz : Option Value} {hz : qa_M} (x1 : Int32) (x2 : Int32) (x3 : Int32) (x5 : Int32) (s0 : Int32) (h : qa_M) {z : ((Int32 × Int32 × Int32 × Int32 × Int32 × qa_M) ⊕ (Int32 × qa_M))} (E : f_X12_farOf_b131 x1 x2 x3 x5 s0 h = some z) (G : (Sum.elim (fun (sz : Int32 × Int32 × Int32 × Int32 × Int32 × qa_M) => qt_At l g (yX12_farOf, cX12_farOf, 7, (some .int)) d 0 0 19 [(0, .ref (g.1 + 119)), (1, .int sz.1), (2, .int sz.2.1), (3, .int sz.2.2.1), (4, .int sz.2.2.2.1), (5, .int sz.2.2.2.2.1)] [] sz.2.2.2.2.2 rz hz) (qg_i rz hz)) z) : qt_At l g (yX12_farOf, cX12_farOf, 7, (some .int)) d 0 0 131 [(0, .ref (g.1 + 119)), (1, .int x1), (2, .int x2), (3, .int x3), (5, .int x5)] [.int s0] h rz hz := by
  unfold f_X12_farOf_b131 at E
  refine qt_istore (fun v131 => [(4, .int v131), (0, .ref (g.1 + 119)), (1, .int x1), (2, .int x2), (3, .int x3), (5, .int x5)]) dX12_farOf_131 (Nat.le_of_ble_eq_true rfl) (fun _ => rfl) E (fun v131 E => ?_)
  refine qt_iinc 5 (fun v133 => [(5, .int v133), (4, .int v131), (0, .ref (g.1 + 119)), (1, .int x1), (2, .int x2), (3, .int x3)]) dX12_farOf_133 rfl ci_1 (Nat.le_of_ble_eq_true rfl) (fun _ => rfl) E (fun v133 E => ?_)
  refine qt_goto 19 dX12_farOf_136 (by decide) ?_
  cases E
  exact qt_sub _ [2, 3, 4, 5, 1, 0] rfl (G)
noncomputable def f_X12_farOf_b129 (x1 : Int32) (x2 : Int32) (x3 : Int32) (x4 : Int32) (x5 : Int32) (h : qa_M) : Option ((Int32 × Int32 × Int32 × Int32 × Int32 × qa_M) ⊕ (Int32 × qa_M)) :=
  f_X12_farOf_b131 x1 x2 x3 x5 x4 h
set_option maxRecDepth 20000 in
theorem s_X12_farOf_b129 {l : Launch} {g : qa_G} {d : Nat} {rz : Option Value} {hz : qa_M} (x1 : Int32) (x2 : Int32) (x3 : Int32) (x4 : Int32) (x5 : Int32) (h : qa_M) {z : ((Int32 × Int32 × Int32 × Int32 × Int32 × qa_M) ⊕ (Int32 × qa_M))} (E : f_X12_farOf_b129 x1 x2 x3 x4 x5 h = some z) (G : (Sum.elim (fun (sz : Int32 × Int32 × Int32 × Int32 × Int32 × qa_M) => qt_At l g (yX12_farOf, cX12_farOf, 7, (some .int)) d 0 0 19 [(0, .ref (g.1 + 119)), (1, .int sz.1), (2, .int sz.2.1), (3, .int sz.2.2.1), (4, .int sz.2.2.2.1), (5, .int sz.2.2.2.2.1)] [] sz.2.2.2.2.2 rz hz) (qg_i rz hz)) z) : qt_At l g (yX12_farOf, cX12_farOf, 7, (some .int)) d 0 0 129 [(0, .ref (g.1 + 119)), (1, .int x1), (2, .int x2), (3, .int x3), (4, .int x4), (5, .int x5)] [] h rz hz := by
  unfold f_X12_farOf_b129 at E
  refine qt_iload 4 dX12_farOf_129 rfl ?_
  exact qt_sub _ [0, 1, 2, 3, 5] rfl ((s_X12_farOf_b131 x1 x2 x3 x5 x4 h E G))
noncomputable def f_X12_farOf_b100 (x1 : Int32) (x2 : Int32) (x3 : Int32) (x4 : Int32) (x5 : Int32) (s0 : Int32) (h : qa_M) : Option ((Int32 × Int32 × Int32 × Int32 × Int32 × qa_M) ⊕ (Int32 × qa_M)) :=
  qbd s0 (fun v100 : Int32 =>
  if v100 = 0 then (
   f_X12_farOf_b129 x1 x2 x3 x4 x5 h)
  else (
   qck x5 48 (
   if (h.1 145 x5.toNatClampNeg) ≤ x4 then (
    f_X12_farOf_b129 x1 x2 x3 x4 x5 h)
   else (
    qck x5 48 (
    f_X12_farOf_b131 x1 x2 x3 x5 (h.1 145 x5.toNatClampNeg) h)))))
set_option maxRecDepth 20000 in
theorem s_X12_farOf_b100 {l : Launch} {g : qa_G} {d : Nat} {rz : Option Value} {hz : qa_M} (x1 : Int32) (x2 : Int32) (x3 : Int32) (x4 : Int32) (x5 : Int32) (s0 : Int32) (h : qa_M) {z : ((Int32 × Int32 × Int32 × Int32 × Int32 × qa_M) ⊕ (Int32 × qa_M))} (E : f_X12_farOf_b100 x1 x2 x3 x4 x5 s0 h = some z) (G : (Sum.elim (fun (sz : Int32 × Int32 × Int32 × Int32 × Int32 × qa_M) => qt_At l g (yX12_farOf, cX12_farOf, 7, (some .int)) d 0 0 19 [(0, .ref (g.1 + 119)), (1, .int sz.1), (2, .int sz.2.1), (3, .int sz.2.2.1), (4, .int sz.2.2.2.1), (5, .int sz.2.2.2.2.1)] [] sz.2.2.2.2.2 rz hz) (qg_i rz hz)) z) : qt_At l g (yX12_farOf, cX12_farOf, 7, (some .int)) d 0 0 100 [(0, .ref (g.1 + 119)), (1, .int x1), (2, .int x2), (3, .int x3), (4, .int x4), (5, .int x5)] [.int s0] h rz hz := by
  unfold f_X12_farOf_b100 at E
  refine qt_istore (fun v100 => [(6, .int v100), (0, .ref (g.1 + 119)), (1, .int x1), (2, .int x2), (3, .int x3), (4, .int x4), (5, .int x5)]) dX12_farOf_100 (Nat.le_of_ble_eq_true rfl) (fun _ => rfl) E (fun v100 E => ?_)
  refine qt_iload 0 dX12_farOf_102 rfl ?_
  refine qt_if_eq 129 dX12_farOf_104 (by decide) E (fun E => ?_) (fun E => ?_)
  · exact qt_sub _ [1, 2, 3, 4, 5, 6] rfl ((s_X12_farOf_b129 x1 x2 x3 x4 x5 h E G))
  · refine qt_aload_n 1 dX12_farOf_107 rfl rfl ?_
    refine qt_getS 145 (wl_119 h) fe_RX12_90 rfl dX12_farOf_108 ?_
    refine qt_iload 6 dX12_farOf_111 rfl ?_
    refine qt_iald (wl_145 h) dX12_farOf_113 E (fun E => ?_)
    refine qt_iload 5 dX12_farOf_114 rfl ?_
    refine qt_icmp_le 129 dX12_farOf_116 (by decide) E (fun E => ?_) (fun E => ?_)
    · exact qt_sub _ [1, 2, 3, 4, 5, 6] rfl ((s_X12_farOf_b129 x1 x2 x3 x4 x5 h E G))
    · refine qt_aload_n 1 dX12_farOf_119 rfl rfl ?_
      refine qt_getS 145 (wl_119 h) fe_RX12_90 rfl dX12_farOf_120 ?_
      refine qt_iload 6 dX12_farOf_123 rfl ?_
      refine qt_iald (wl_145 h) dX12_farOf_125 E (fun E => ?_)
      refine qt_goto 131 dX12_farOf_126 (by decide) ?_
      exact qt_sub _ [1, 2, 3, 4, 6] rfl ((s_X12_farOf_b131 x1 x2 x3 x5 (h.1 145 x5.toNatClampNeg) h E G))
noncomputable def f_X12_farOf_b99 (x1 : Int32) (x2 : Int32) (x3 : Int32) (x4 : Int32) (x5 : Int32) (h : qa_M) : Option ((Int32 × Int32 × Int32 × Int32 × Int32 × qa_M) ⊕ (Int32 × qa_M)) :=
  f_X12_farOf_b100 x1 x2 x3 x4 x5 (0 : Int32) h
set_option maxRecDepth 20000 in
theorem s_X12_farOf_b99 {l : Launch} {g : qa_G} {d : Nat} {rz : Option Value} {hz : qa_M} (x1 : Int32) (x2 : Int32) (x3 : Int32) (x4 : Int32) (x5 : Int32) (h : qa_M) {z : ((Int32 × Int32 × Int32 × Int32 × Int32 × qa_M) ⊕ (Int32 × qa_M))} (E : f_X12_farOf_b99 x1 x2 x3 x4 x5 h = some z) (G : (Sum.elim (fun (sz : Int32 × Int32 × Int32 × Int32 × Int32 × qa_M) => qt_At l g (yX12_farOf, cX12_farOf, 7, (some .int)) d 0 0 19 [(0, .ref (g.1 + 119)), (1, .int sz.1), (2, .int sz.2.1), (3, .int sz.2.2.1), (4, .int sz.2.2.2.1), (5, .int sz.2.2.2.2.1)] [] sz.2.2.2.2.2 rz hz) (qg_i rz hz)) z) : qt_At l g (yX12_farOf, cX12_farOf, 7, (some .int)) d 0 0 99 [(0, .ref (g.1 + 119)), (1, .int x1), (2, .int x2), (3, .int x3), (4, .int x4), (5, .int x5)] [] h rz hz := by
  unfold f_X12_farOf_b99 at E
  refine qt_iconst dX12_farOf_99 ci_0 ?_
  exact qt_sub _ [0, 1, 2, 3, 4, 5] rfl ((s_X12_farOf_b100 x1 x2 x3 x4 x5 (0 : Int32) h E G))
noncomputable def f_X12_farOf_b95 (x1 : Int32) (x2 : Int32) (x3 : Int32) (x4 : Int32) (x5 : Int32) (h : qa_M) : Option ((Int32 × Int32 × Int32 × Int32 × Int32 × qa_M) ⊕ (Int32 × qa_M)) :=
  f_X12_farOf_b100 x1 x2 x3 x4 x5 (1 : Int32) h
set_option maxRecDepth 20000 in
theorem s_X12_farOf_b95 {l : Launch} {g : qa_G} {d : Nat} {rz : Option Value} {hz : qa_M} (x1 : Int32) (x2 : Int32) (x3 : Int32) (x4 : Int32) (x5 : Int32) (h : qa_M) {z : ((Int32 × Int32 × Int32 × Int32 × Int32 × qa_M) ⊕ (Int32 × qa_M))} (E : f_X12_farOf_b95 x1 x2 x3 x4 x5 h = some z) (G : (Sum.elim (fun (sz : Int32 × Int32 × Int32 × Int32 × Int32 × qa_M) => qt_At l g (yX12_farOf, cX12_farOf, 7, (some .int)) d 0 0 19 [(0, .ref (g.1 + 119)), (1, .int sz.1), (2, .int sz.2.1), (3, .int sz.2.2.1), (4, .int sz.2.2.2.1), (5, .int sz.2.2.2.2.1)] [] sz.2.2.2.2.2 rz hz) (qg_i rz hz)) z) : qt_At l g (yX12_farOf, cX12_farOf, 7, (some .int)) d 0 0 95 [(0, .ref (g.1 + 119)), (1, .int x1), (2, .int x2), (3, .int x3), (4, .int x4), (5, .int x5)] [] h rz hz := by
  unfold f_X12_farOf_b95 at E
  refine qt_iconst dX12_farOf_95 ci_1 ?_
  refine qt_goto 100 dX12_farOf_96 (by decide) ?_
  exact qt_sub _ [0, 1, 2, 3, 4, 5] rfl ((s_X12_farOf_b100 x1 x2 x3 x4 x5 (1 : Int32) h E G))
noncomputable def f_X12_farOf_b73 (x1 : Int32) (x2 : Int32) (x3 : Int32) (x4 : Int32) (x5 : Int32) (h : qa_M) : Option ((Int32 × Int32 × Int32 × Int32 × Int32 × qa_M) ⊕ (Int32 × qa_M)) :=
  qck x5 48 (
  if (h.1 143 x5.toNatClampNeg) = x2 then (
   qck x5 48 (
   if (h.1 144 x5.toNatClampNeg) = x1 then (
    f_X12_farOf_b95 x1 x2 x3 x4 x5 h)
   else (
    f_X12_farOf_b99 x1 x2 x3 x4 x5 h)))
  else (
   f_X12_farOf_b99 x1 x2 x3 x4 x5 h))
set_option maxRecDepth 20000 in
theorem s_X12_farOf_b73 {l : Launch} {g : qa_G} {d : Nat} {rz : Option Value} {hz : qa_M} (x1 : Int32) (x2 : Int32) (x3 : Int32) (x4 : Int32) (x5 : Int32) (h : qa_M) {z : ((Int32 × Int32 × Int32 × Int32 × Int32 × qa_M) ⊕ (Int32 × qa_M))} (E : f_X12_farOf_b73 x1 x2 x3 x4 x5 h = some z) (G : (Sum.elim (fun (sz : Int32 × Int32 × Int32 × Int32 × Int32 × qa_M) => qt_At l g (yX12_farOf, cX12_farOf, 7, (some .int)) d 0 0 19 [(0, .ref (g.1 + 119)), (1, .int sz.1), (2, .int sz.2.1), (3, .int sz.2.2.1), (4, .int sz.2.2.2.1), (5, .int sz.2.2.2.2.1)] [] sz.2.2.2.2.2 rz hz) (qg_i rz hz)) z) : qt_At l g (yX12_farOf, cX12_farOf, 7, (some .int)) d 0 0 73 [(0, .ref (g.1 + 119)), (1, .int x1), (2, .int x2), (3, .int x3), (4, .int x4), (5, .int x5)] [] h rz hz := by
  unfold f_X12_farOf_b73 at E
  refine qt_aload_n 0 dX12_farOf_73 rfl rfl ?_
  refine qt_getS 143 (wl_119 h) fe_RX12_84 rfl dX12_farOf_74 ?_
  refine qt_iload 5 dX12_farOf_77 rfl ?_
  refine qt_iald (wl_143 h) dX12_farOf_79 E (fun E => ?_)
  refine qt_iload_n 2 dX12_farOf_80 rfl rfl ?_
  refine qt_icmp_ne 99 dX12_farOf_81 (by decide) E (fun E => ?_) (fun E => ?_)
  · exact qt_sub _ [0, 1, 2, 3, 4, 5] rfl ((s_X12_farOf_b99 x1 x2 x3 x4 x5 h E G))
  · refine qt_aload_n 0 dX12_farOf_84 rfl rfl ?_
    refine qt_getS 144 (wl_119 h) fe_RX12_87 rfl dX12_farOf_85 ?_
    refine qt_iload 5 dX12_farOf_88 rfl ?_
    refine qt_iald (wl_144 h) dX12_farOf_90 E (fun E => ?_)
    refine qt_iload_n 1 dX12_farOf_91 rfl rfl ?_
    refine qt_icmp_ne 99 dX12_farOf_92 (by decide) E (fun E => ?_) (fun E => ?_)
    · exact qt_sub _ [0, 1, 2, 3, 4, 5] rfl ((s_X12_farOf_b99 x1 x2 x3 x4 x5 h E G))
    · exact qt_sub _ [0, 1, 2, 3, 4, 5] rfl ((s_X12_farOf_b95 x1 x2 x3 x4 x5 h E G))
noncomputable def f_X12_farOf_b19 (x1 : Int32) (x2 : Int32) (x3 : Int32) (x4 : Int32) (x5 : Int32) (h : qa_M) : Option ((Int32 × Int32 × Int32 × Int32 × Int32 × qa_M) ⊕ (Int32 × qa_M)) :=
  if x3 = (-1 : Int32) then (
   qup (some (x4, h)))
  else (
   qck x3 4 (
   if (((12 : Int32) * x3) + (h.1 142 x3.toNatClampNeg)) ≤ x5 then (
    qup (some (x4, h)))
   else (
    qck x5 48 (
    if (h.1 144 x5.toNatClampNeg) = (-1 : Int32) then (
     f_X12_farOf_b99 x1 x2 x3 x4 x5 h)
    else (
     qck x5 48 (
     if (h.1 143 x5.toNatClampNeg) = x1 then (
      qck x5 48 (
      if (h.1 144 x5.toNatClampNeg) = x2 then (
       f_X12_farOf_b95 x1 x2 x3 x4 x5 h)
      else (
       f_X12_farOf_b73 x1 x2 x3 x4 x5 h)))
     else (
      f_X12_farOf_b73 x1 x2 x3 x4 x5 h)))))))
set_option maxRecDepth 20000 in
theorem s_X12_farOf_b19 {l : Launch} {g : qa_G} {d : Nat} {rz : Option Value} {hz : qa_M} (x1 : Int32) (x2 : Int32) (x3 : Int32) (x4 : Int32) (x5 : Int32) (h : qa_M) {z : ((Int32 × Int32 × Int32 × Int32 × Int32 × qa_M) ⊕ (Int32 × qa_M))} (E : f_X12_farOf_b19 x1 x2 x3 x4 x5 h = some z) (G : (Sum.elim (fun (sz : Int32 × Int32 × Int32 × Int32 × Int32 × qa_M) => qt_At l g (yX12_farOf, cX12_farOf, 7, (some .int)) d 0 0 19 [(0, .ref (g.1 + 119)), (1, .int sz.1), (2, .int sz.2.1), (3, .int sz.2.2.1), (4, .int sz.2.2.2.1), (5, .int sz.2.2.2.2.1)] [] sz.2.2.2.2.2 rz hz) (qg_i rz hz)) z) : qt_At l g (yX12_farOf, cX12_farOf, 7, (some .int)) d 0 0 19 [(0, .ref (g.1 + 119)), (1, .int x1), (2, .int x2), (3, .int x3), (4, .int x4), (5, .int x5)] [] h rz hz := by
  unfold f_X12_farOf_b19 at E
  refine qt_iload_n 3 dX12_farOf_19 rfl rfl ?_
  refine qt_iconst dX12_farOf_20 ci_m1 ?_
  refine qt_icmp_eq 139 dX12_farOf_21 (by decide) E (fun E => ?_) (fun E => ?_)
  · refine qt_iload 4 dX12_farOf_139 rfl ?_
    obtain ⟨z0_, E, G⟩ := qup_g E G
    exact qt_ireturn rfl (Nat.le_of_ble_eq_true rfl) dX12_farOf_141 E G
  · refine qt_iload 5 dX12_farOf_24 rfl ?_
    refine qt_bipush dX12_farOf_26 cb_12 ?_
    refine qt_iload_n 3 dX12_farOf_28 rfl rfl ?_
    refine qt_imul dX12_farOf_29 ?_
    refine qt_aload_n 0 dX12_farOf_30 rfl rfl ?_
    refine qt_getS 142 (wl_119 h) fe_RX12_81 rfl dX12_farOf_31 ?_
    refine qt_iload_n 3 dX12_farOf_34 rfl rfl ?_
    refine qt_iald (wl_142 h) dX12_farOf_35 E (fun E => ?_)
    refine qt_iadd dX12_farOf_36 ?_
    refine qt_icmp_ge 139 dX12_farOf_37 (by decide) E (fun E => ?_) (fun E => ?_)
    · refine qt_iload 4 dX12_farOf_139 rfl ?_
      obtain ⟨z0_, E, G⟩ := qup_g E G
      exact qt_ireturn rfl (Nat.le_of_ble_eq_true rfl) dX12_farOf_141 E G
    · refine qt_aload_n 0 dX12_farOf_40 rfl rfl ?_
      refine qt_getS 144 (wl_119 h) fe_RX12_87 rfl dX12_farOf_41 ?_
      refine qt_iload 5 dX12_farOf_44 rfl ?_
      refine qt_iald (wl_144 h) dX12_farOf_46 E (fun E => ?_)
      refine qt_iconst dX12_farOf_47 ci_m1 ?_
      refine qt_icmp_eq 99 dX12_farOf_48 (by decide) E (fun E => ?_) (fun E => ?_)
      · exact qt_sub _ [0, 1, 2, 3, 4, 5] rfl ((s_X12_farOf_b99 x1 x2 x3 x4 x5 h E G))
      · refine qt_aload_n 0 dX12_farOf_51 rfl rfl ?_
        refine qt_getS 143 (wl_119 h) fe_RX12_84 rfl dX12_farOf_52 ?_
        refine qt_iload 5 dX12_farOf_55 rfl ?_
        refine qt_iald (wl_143 h) dX12_farOf_57 E (fun E => ?_)
        refine qt_iload_n 1 dX12_farOf_58 rfl rfl ?_
        refine qt_icmp_ne 73 dX12_farOf_59 (by decide) E (fun E => ?_) (fun E => ?_)
        · exact qt_sub _ [0, 1, 2, 3, 4, 5] rfl ((s_X12_farOf_b73 x1 x2 x3 x4 x5 h E G))
        · refine qt_aload_n 0 dX12_farOf_62 rfl rfl ?_
          refine qt_getS 144 (wl_119 h) fe_RX12_87 rfl dX12_farOf_63 ?_
          refine qt_iload 5 dX12_farOf_66 rfl ?_
          refine qt_iald (wl_144 h) dX12_farOf_68 E (fun E => ?_)
          refine qt_iload_n 2 dX12_farOf_69 rfl rfl ?_
          refine qt_icmp_eq 95 dX12_farOf_70 (by decide) E (fun E => ?_) (fun E => ?_)
          · exact qt_sub _ [0, 1, 2, 3, 4, 5] rfl ((s_X12_farOf_b95 x1 x2 x3 x4 x5 h E G))
          · exact qt_sub _ [0, 1, 2, 3, 4, 5] rfl ((s_X12_farOf_b73 x1 x2 x3 x4 x5 h E G))
noncomputable def f_X12_farOf_b19_loop (x1 : Int32) (x2 : Int32) (x3 : Int32) (x4 : Int32) (x5 : Int32) (h : qa_M) : Option (Int32 × qa_M) := qlp (fun sz : Int32 × Int32 × Int32 × Int32 × Int32 × qa_M => f_X12_farOf_b19 sz.1 sz.2.1 sz.2.2.1 sz.2.2.2.1 sz.2.2.2.2.1 sz.2.2.2.2.2) (x1, x2, x3, x4, x5, h)
theorem s_X12_farOf_b19_loop {l : Launch} {g : qa_G} {d : Nat} {rz : Option Value} {hz : qa_M} (x1 : Int32) (x2 : Int32) (x3 : Int32) (x4 : Int32) (x5 : Int32) (h : qa_M) {z : (Int32 × qa_M)} (E : f_X12_farOf_b19_loop x1 x2 x3 x4 x5 h = some z) (G : (qg_i rz hz) z) : qt_At l g (yX12_farOf, cX12_farOf, 7, (some .int)) d 0 0 19 [(0, .ref (g.1 + 119)), (1, .int x1), (2, .int x2), (3, .int x3), (4, .int x4), (5, .int x5)] [] h rz hz :=
  qlp_ind (fun sz : Int32 × Int32 × Int32 × Int32 × Int32 × qa_M => qt_At l g (yX12_farOf, cX12_farOf, 7, (some .int)) d 0 0 19 [(0, .ref (g.1 + 119)), (1, .int sz.1), (2, .int sz.2.1), (3, .int sz.2.2.1), (4, .int sz.2.2.2.1), (5, .int sz.2.2.2.2.1)] [] sz.2.2.2.2.2 rz hz) (fun sz E => s_X12_farOf_b19 sz.1 sz.2.1 sz.2.2.1 sz.2.2.2.1 sz.2.2.2.2.1 sz.2.2.2.2.2 E G) (fun sz sz2 E ih => s_X12_farOf_b19 sz.1 sz.2.1 sz.2.2.1 sz.2.2.2.1 sz.2.2.2.2.1 sz.2.2.2.2.2 E ih) (x1, x2, x3, x4, x5, h) E
noncomputable def m_X12_farOf (x1 : Int32) (x2 : Int32) (h : qa_M) : Option (Int32 × qa_M) :=
  qck (6 : Int32) 8 (
  qbd ((h.1 120 (6 : Int32).toNatClampNeg) - (1 : Int32)) (fun v9 : Int32 =>
  qbd (1 : Int32) (fun v11 : Int32 =>
  qbd ((12 : Int32) * v9) (fun v17 : Int32 =>
  f_X12_farOf_b19_loop x1 x2 v9 v11 v17 h))))
set_option maxRecDepth 20000 in
theorem c_X12_farOf {l : Launch} {g : qa_G} {d : Nat} (x1 : Int32) (x2 : Int32) (h : qa_M) {c : Int32} {h1 : qa_M} (E : m_X12_farOf x1 x2 h = some (c, h1)) : qt_Met l g (yX12_farOf, cX12_farOf, 7, (some .int)) d 0 [.ref (g.1 + 119), .int x1, .int x2] h (some (.int c)) h1 := by
  refine qt_Met.of (plainFor_of_name (by decide)) (Nat.le_of_ble_eq_true rfl) ?_
  have G : qg_i (some (.int c)) h1 ((c, h1)) := ⟨rfl, rfl⟩
  unfold m_X12_farOf at E
  refine qt_aload_n 0 dX12_farOf_0 rfl rfl ?_
  refine qt_getS 120 (wl_119 h) fe_RX12_7 rfl dX12_farOf_1 ?_
  refine qt_bipush dX12_farOf_4 cb_6 ?_
  refine qt_iald (wl_120 h) dX12_farOf_6 E (fun E => ?_)
  refine qt_iconst dX12_farOf_7 ci_1 ?_
  refine qt_isub dX12_farOf_8 ?_
  refine qt_istore_n (fun v9 => [(3, .int v9), (0, .ref (g.1 + 119)), (1, .int x1), (2, .int x2)]) dX12_farOf_9 rfl (Nat.le_of_ble_eq_true rfl) (fun _ => rfl) E (fun v9 E => ?_)
  refine qt_iconst dX12_farOf_10 ci_1 ?_
  refine qt_istore (fun v11 => [(4, .int v11), (3, .int v9), (0, .ref (g.1 + 119)), (1, .int x1), (2, .int x2)]) dX12_farOf_11 (Nat.le_of_ble_eq_true rfl) (fun _ => rfl) E (fun v11 E => ?_)
  refine qt_bipush dX12_farOf_13 cb_12 ?_
  refine qt_iload_n 1 dX12_farOf_15 rfl rfl ?_
  refine qt_imul dX12_farOf_16 ?_
  refine qt_istore (fun v17 => [(5, .int v17), (4, .int v11), (3, .int v9), (0, .ref (g.1 + 119)), (1, .int x1), (2, .int x2)]) dX12_farOf_17 (Nat.le_of_ble_eq_true rfl) (fun _ => rfl) E (fun v17 E => ?_)
  exact qt_sub _ [3, 4, 5, 2, 1, 0] rfl ((s_X12_farOf_b19_loop x1 x2 v9 v11 v17 h E G))
noncomputable def f_X12_beginsLayings_b289 (h : qa_M) : Option qa_M :=
  qbd (qw_I h 119 49 (0 : Int32)) (fun h291 : qa_M =>
  some h291)
set_option maxRecDepth 20000 in
theorem s_X12_beginsLayings_b289 {l : Launch} {g : qa_G} {d : Nat} {rz : Option Value} {hz : qa_M} (h : qa_M) {z : qa_M} (E : f_X12_beginsLayings_b289 h = some z) (G : (qg_v rz hz) z) : qt_At l g (yX12_beginsLayings, cX12_beginsLayings, 4, none) (d + 6) 0 0 289 [(0, .ref (g.1 + 119))] [] h rz hz := by
  unfold f_X12_beginsLayings_b289 at E
  refine qt_aload_n 0 dX12_beginsLayings_289 rfl rfl ?_
  refine qt_iconst dX12_beginsLayings_290 ci_0 ?_
  refine qt_putI (wl_119 h) fd_RX12_430 rfl (qz_nar (Or.inl rfl)) (qz_fit (Or.inl rfl)) dX12_beginsLayings_291 E (fun h291 E => ?_)
  exact qt_vreturn rfl (Nat.le_of_ble_eq_true rfl) dX12_beginsLayings_294 E G
noncomputable def f_X12_beginsLayings_b282 (x1 : Int32) (s1 : Int32) (s2 : Int64) (h : qa_M) : Option ((Int32 × qa_M) ⊕ qa_M) :=
  qck s1 10 (
  qbd (qw_J h 155 s1.toNatClampNeg s2) (fun h282 : qa_M =>
  qbd (x1 + (1 : Int32)) (fun v283 : Int32 =>
  some (.inl (v283, h282)))))
set_option maxRecDepth 20000 in
theorem s_X12_beginsLayings_b282 {l : Launch} {g : qa_G} {d : Nat} {rz : Option Value} {hz : qa_M} (x1 : Int32) (s1 : Int32) (s2 : Int64) (h : qa_M) {z : ((Int32 × qa_M) ⊕ qa_M)} (E : f_X12_beginsLayings_b282 x1 s1 s2 h = some z) (G : (Sum.elim (fun (sz : Int32 × qa_M) => qt_At l g (yX12_beginsLayings, cX12_beginsLayings, 4, none) (d + 6) 0 0 219 [(0, .ref (g.1 + 119)), (1, .int sz.1)] [] sz.2 rz hz) (qg_v rz hz)) z) : qt_At l g (yX12_beginsLayings, cX12_beginsLayings, 4, none) (d + 6) 0 0 282 [(0, .ref (g.1 + 119)), (1, .int x1)] [.long s2, .int s1, .ref (g.1 + 155)] h rz hz := by
  unfold f_X12_beginsLayings_b282 at E
  refine qt_last (wl_155 h) dX12_beginsLayings_282 E (fun h282 E => ?_)
  refine qt_iinc 1 (fun v283 => [(1, .int v283), (0, .ref (g.1 + 119))]) dX12_beginsLayings_283 rfl ci_1 (Nat.le_of_ble_eq_true rfl) (fun _ => rfl) E (fun v283 E => ?_)
  refine qt_goto 219 dX12_beginsLayings_286 (by decide) ?_
  cases E
  exact qt_sub _ [1, 0] rfl (G)
noncomputable def f_X12_beginsLayings_b219 (x1 : Int32) (h : qa_M) : Option ((Int32 × qa_M) ⊕ qa_M) :=
  qck (5 : Int32) 8 (
  if (h.1 120 (5 : Int32).toNatClampNeg) ≤ x1 then (
   qup (f_X12_beginsLayings_b289 h))
  else (
   qck x1 10 (
   if (h.1 128 x1.toNatClampNeg) = 0 then (
    qck x1 10 (
    qck (h.1 129 x1.toNatClampNeg) 8 (
    qck x1 10 (
    qck (h.1 129 x1.toNatClampNeg) 8 (
    qbn (m_X12_seenFrom (h.1 122 (h.1 129 x1.toNatClampNeg).toNatClampNeg) (h.1 123 (h.1 129 x1.toNatClampNeg).toNatClampNeg) h) (fun (c266 : Int64) (h266 : qa_M) =>
    f_X12_beginsLayings_b282 x1 x1 c266 h266))))))
   else (
    qck x1 10 (
    qbn (m_X12_roadSet (h.1 129 x1.toNatClampNeg) h) (fun (c279 : Int64) (h279 : qa_M) =>
    f_X12_beginsLayings_b282 x1 x1 c279 h279))))))
set_option maxRecDepth 20000 in
theorem s_X12_beginsLayings_b219 {l : Launch} {g : qa_G} {d : Nat} {rz : Option Value} {hz : qa_M} (x1 : Int32) (h : qa_M) {z : ((Int32 × qa_M) ⊕ qa_M)} (E : f_X12_beginsLayings_b219 x1 h = some z) (G : (Sum.elim (fun (sz : Int32 × qa_M) => qt_At l g (yX12_beginsLayings, cX12_beginsLayings, 4, none) (d + 6) 0 0 219 [(0, .ref (g.1 + 119)), (1, .int sz.1)] [] sz.2 rz hz) (qg_v rz hz)) z) : qt_At l g (yX12_beginsLayings, cX12_beginsLayings, 4, none) (d + 6) 0 0 219 [(0, .ref (g.1 + 119)), (1, .int x1)] [] h rz hz := by
  unfold f_X12_beginsLayings_b219 at E
  refine qt_iload_n 1 dX12_beginsLayings_219 rfl rfl ?_
  refine qt_aload_n 0 dX12_beginsLayings_220 rfl rfl ?_
  refine qt_getS 120 (wl_119 h) fe_RX12_7 rfl dX12_beginsLayings_221 ?_
  refine qt_iconst dX12_beginsLayings_224 ci_5 ?_
  refine qt_iald (wl_120 h) dX12_beginsLayings_225 E (fun E => ?_)
  refine qt_icmp_ge 289 dX12_beginsLayings_226 (by decide) E (fun E => ?_) (fun E => ?_)
  · obtain ⟨z0_, E, G⟩ := qup_g E G
    exact qt_sub _ [0] rfl ((s_X12_beginsLayings_b289 h E G))
  · refine qt_aload_n 0 dX12_beginsLayings_229 rfl rfl ?_
    refine qt_getS 155 (wl_119 h) fe_RX12_121 rfl dX12_beginsLayings_230 ?_
    refine qt_iload_n 1 dX12_beginsLayings_233 rfl rfl ?_
    refine qt_aload_n 0 dX12_beginsLayings_234 rfl rfl ?_
    refine qt_getS 128 (wl_119 h) fe_RX12_34 rfl dX12_beginsLayings_235 ?_
    refine qt_iload_n 1 dX12_beginsLayings_238 rfl rfl ?_
    refine qt_iald (wl_128 h) dX12_beginsLayings_239 E (fun E => ?_)
    refine qt_if_ne 272 dX12_beginsLayings_240 (by decide) E (fun E => ?_) (fun E => ?_)
    · refine qt_aload_n 0 dX12_beginsLayings_272 rfl rfl ?_
      refine qt_aload_n 0 dX12_beginsLayings_273 rfl rfl ?_
      refine qt_getS 129 (wl_119 h) fe_RX12_37 rfl dX12_beginsLayings_274 ?_
      refine qt_iload_n 1 dX12_beginsLayings_277 rfl rfl ?_
      refine qt_iald (wl_129 h) dX12_beginsLayings_278 E (fun E => ?_)
      obtain ⟨c279, h279, e279, E⟩ := qbn_el E
      refine qt_callVl (b2 := 0) [.int (h.1 129 x1.toNatClampNeg)] (c_X12_roadSet (h.1 129 x1.toNatClampNeg) h e279) cv_RX12_207 (wl_119 h) rfl rfl rfl (Nat.le_of_ble_eq_true rfl) (Nat.le_of_ble_eq_true rfl) dX12_beginsLayings_279 ?_
      exact qt_sub _ [0, 1] rfl ((s_X12_beginsLayings_b282 x1 x1 c279 h279 E G))
    · refine qt_aload_n 0 dX12_beginsLayings_243 rfl rfl ?_
      refine qt_aload_n 0 dX12_beginsLayings_244 rfl rfl ?_
      refine qt_getS 122 (wl_119 h) fe_RX12_16 rfl dX12_beginsLayings_245 ?_
      refine qt_aload_n 0 dX12_beginsLayings_248 rfl rfl ?_
      refine qt_getS 129 (wl_119 h) fe_RX12_37 rfl dX12_beginsLayings_249 ?_
      refine qt_iload_n 1 dX12_beginsLayings_252 rfl rfl ?_
      refine qt_iald (wl_129 h) dX12_beginsLayings_253 E (fun E => ?_)
      refine qt_iald (wl_122 h) dX12_beginsLayings_254 E (fun E => ?_)
      refine qt_aload_n 0 dX12_beginsLayings_255 rfl rfl ?_
      refine qt_getS 123 (wl_119 h) fe_RX12_19 rfl dX12_beginsLayings_256 ?_
      refine qt_aload_n 0 dX12_beginsLayings_259 rfl rfl ?_
      refine qt_getS 129 (wl_119 h) fe_RX12_37 rfl dX12_beginsLayings_260 ?_
      refine qt_iload_n 1 dX12_beginsLayings_263 rfl rfl ?_
      refine qt_iald (wl_129 h) dX12_beginsLayings_264 E (fun E => ?_)
      refine qt_iald (wl_123 h) dX12_beginsLayings_265 E (fun E => ?_)
      obtain ⟨c266, h266, e266, E⟩ := qbn_el E
      refine qt_callVl (b2 := 0) [.int (h.1 122 (h.1 129 x1.toNatClampNeg).toNatClampNeg), .int (h.1 123 (h.1 129 x1.toNatClampNeg).toNatClampNeg)] (c_X12_seenFrom (h.1 122 (h.1 129 x1.toNatClampNeg).toNatClampNeg) (h.1 123 (h.1 129 x1.toNatClampNeg).toNatClampNeg) h e266) cv_RX12_197 (wl_119 h) rfl rfl rfl (Nat.le_of_ble_eq_true rfl) (Nat.le_of_ble_eq_true rfl) dX12_beginsLayings_266 ?_
      refine qt_goto 282 dX12_beginsLayings_269 (by decide) ?_
      exact qt_sub _ [0, 1] rfl ((s_X12_beginsLayings_b282 x1 x1 c266 h266 E G))
noncomputable def f_X12_beginsLayings_b219_loop (x1 : Int32) (h : qa_M) : Option qa_M := qlp (fun sz : Int32 × qa_M => f_X12_beginsLayings_b219 sz.1 sz.2) (x1, h)
theorem s_X12_beginsLayings_b219_loop {l : Launch} {g : qa_G} {d : Nat} {rz : Option Value} {hz : qa_M} (x1 : Int32) (h : qa_M) {z : qa_M} (E : f_X12_beginsLayings_b219_loop x1 h = some z) (G : (qg_v rz hz) z) : qt_At l g (yX12_beginsLayings, cX12_beginsLayings, 4, none) (d + 6) 0 0 219 [(0, .ref (g.1 + 119)), (1, .int x1)] [] h rz hz :=
  qlp_ind (fun sz : Int32 × qa_M => qt_At l g (yX12_beginsLayings, cX12_beginsLayings, 4, none) (d + 6) 0 0 219 [(0, .ref (g.1 + 119)), (1, .int sz.1)] [] sz.2 rz hz) (fun sz E => s_X12_beginsLayings_b219 sz.1 sz.2 E G) (fun sz sz2 E ih => s_X12_beginsLayings_b219 sz.1 sz.2 E ih) (x1, h) E
noncomputable def f_X12_beginsLayings_b217 (h : qa_M) : Option qa_M :=
  qbd (0 : Int32) (fun v218 : Int32 =>
  f_X12_beginsLayings_b219_loop v218 h)
set_option maxRecDepth 20000 in
theorem s_X12_beginsLayings_b217 {l : Launch} {g : qa_G} {d : Nat} {rz : Option Value} {hz : qa_M} (h : qa_M) {z : qa_M} (E : f_X12_beginsLayings_b217 h = some z) (G : (qg_v rz hz) z) : qt_At l g (yX12_beginsLayings, cX12_beginsLayings, 4, none) (d + 6) 0 0 217 [(0, .ref (g.1 + 119))] [] h rz hz := by
  unfold f_X12_beginsLayings_b217 at E
  refine qt_iconst dX12_beginsLayings_217 ci_0 ?_
  refine qt_istore_n (fun v218 => [(1, .int v218), (0, .ref (g.1 + 119))]) dX12_beginsLayings_218 rfl (Nat.le_of_ble_eq_true rfl) (fun _ => rfl) E (fun v218 E => ?_)
  exact qt_sub _ [1, 0] rfl ((s_X12_beginsLayings_b219_loop v218 h E G))
noncomputable def f_X12_beginsLayings_b211 (x1 : Int32) (h : qa_M) : Option ((Int32 × qa_M) ⊕ qa_M) :=
  qbd (x1 + (1 : Int32)) (fun v211 : Int32 =>
  some (.inl (v211, h)))
set_option maxRecDepth 20000 in
theorem s_X12_beginsLayings_b211 {l : Launch} {g : qa_G} {d : Nat} {rz : Option Value} {hz : qa_M} (x1 : Int32) (h : qa_M) {z : ((Int32 × qa_M) ⊕ qa_M)} (E : f_X12_beginsLayings_b211 x1 h = some z) (G : (Sum.elim (fun (sz : Int32 × qa_M) => qt_At l g (yX12_beginsLayings, cX12_beginsLayings, 4, none) (d + 6) 0 0 161 [(0, .ref (g.1 + 119)), (1, .int sz.1)] [] sz.2 rz hz) (qg_v rz hz)) z) : qt_At l g (yX12_beginsLayings, cX12_beginsLayings, 4, none) (d + 6) 0 0 211 [(0, .ref (g.1 + 119)), (1, .int x1)] [] h rz hz := by
  unfold f_X12_beginsLayings_b211 at E
  refine qt_iinc 1 (fun v211 => [(1, .int v211), (0, .ref (g.1 + 119))]) dX12_beginsLayings_211 rfl ci_1 (Nat.le_of_ble_eq_true rfl) (fun _ => rfl) E (fun v211 E => ?_)
  refine qt_goto 161 dX12_beginsLayings_214 (by decide) ?_
  cases E
  exact qt_sub _ [1, 0] rfl (G)
noncomputable def f_X12_beginsLayings_b171 (x1 : Int32) (x2 : Int32) (h : qa_M) : Option ((Int32 × Int32 × qa_M) ⊕ ((Int32 × qa_M) ⊕ qa_M)) :=
  if (h.1 119 48) ≤ x2 then (
   qup (f_X12_beginsLayings_b211 x1 h))
  else (
   qck x1 4 (
   qck x2 4 (
   qbn (m_X12_farOf (h.1 152 x1.toNatClampNeg) (h.1 152 x2.toNatClampNeg) h) (fun (c201 : Int32) (h201 : qa_M) =>
   qck (((4 : Int32) * x1) + x2) 16 (
   qbd (qw_I h201 153 (((4 : Int32) * x1) + x2).toNatClampNeg c201) (fun h204 : qa_M =>
   qbd (x2 + (1 : Int32)) (fun v205 : Int32 =>
   some (.inl (x1, v205, h204)))))))))
set_option maxRecDepth 20000 in
theorem s_X12_beginsLayings_b171 {l : Launch} {g : qa_G} {d : Nat} {rz : Option Value} {hz : qa_M} (x1 : Int32) (x2 : Int32) (h : qa_M) {z : ((Int32 × Int32 × qa_M) ⊕ ((Int32 × qa_M) ⊕ qa_M))} (E : f_X12_beginsLayings_b171 x1 x2 h = some z) (G : (Sum.elim (fun (sz : Int32 × Int32 × qa_M) => qt_At l g (yX12_beginsLayings, cX12_beginsLayings, 4, none) (d + 6) 0 0 171 [(0, .ref (g.1 + 119)), (1, .int sz.1), (2, .int sz.2.1)] [] sz.2.2 rz hz) (Sum.elim (fun (sz : Int32 × qa_M) => qt_At l g (yX12_beginsLayings, cX12_beginsLayings, 4, none) (d + 6) 0 0 161 [(0, .ref (g.1 + 119)), (1, .int sz.1)] [] sz.2 rz hz) (qg_v rz hz))) z) : qt_At l g (yX12_beginsLayings, cX12_beginsLayings, 4, none) (d + 6) 0 0 171 [(0, .ref (g.1 + 119)), (1, .int x1), (2, .int x2)] [] h rz hz := by
  unfold f_X12_beginsLayings_b171 at E
  refine qt_iload_n 2 dX12_beginsLayings_171 rfl rfl ?_
  refine qt_aload_n 0 dX12_beginsLayings_172 rfl rfl ?_
  refine qt_getI (wl_119 h) fe_RX12_424 rfl dX12_beginsLayings_173 ?_
  refine qt_icmp_ge 211 dX12_beginsLayings_176 (by decide) E (fun E => ?_) (fun E => ?_)
  · obtain ⟨z0_, E, G⟩ := qup_g E G
    exact qt_sub _ [0, 1] rfl ((s_X12_beginsLayings_b211 x1 h E G))
  · refine qt_aload_n 0 dX12_beginsLayings_179 rfl rfl ?_
    refine qt_getS 153 (wl_119 h) fe_RX12_115 rfl dX12_beginsLayings_180 ?_
    refine qt_iconst dX12_beginsLayings_183 ci_4 ?_
    refine qt_iload_n 1 dX12_beginsLayings_184 rfl rfl ?_
    refine qt_imul dX12_beginsLayings_185 ?_
    refine qt_iload_n 2 dX12_beginsLayings_186 rfl rfl ?_
    refine qt_iadd dX12_beginsLayings_187 ?_
    refine qt_aload_n 0 dX12_beginsLayings_188 rfl rfl ?_
    refine qt_aload_n 0 dX12_beginsLayings_189 rfl rfl ?_
    refine qt_getS 152 (wl_119 h) fe_RX12_112 rfl dX12_beginsLayings_190 ?_
    refine qt_iload_n 1 dX12_beginsLayings_193 rfl rfl ?_
    refine qt_iald (wl_152 h) dX12_beginsLayings_194 E (fun E => ?_)
    refine qt_aload_n 0 dX12_beginsLayings_195 rfl rfl ?_
    refine qt_getS 152 (wl_119 h) fe_RX12_112 rfl dX12_beginsLayings_196 ?_
    refine qt_iload_n 2 dX12_beginsLayings_199 rfl rfl ?_
    refine qt_iald (wl_152 h) dX12_beginsLayings_200 E (fun E => ?_)
    obtain ⟨c201, h201, e201, E⟩ := qbn_el E
    refine qt_callVi (b2 := 0) [.int (h.1 152 x1.toNatClampNeg), .int (h.1 152 x2.toNatClampNeg)] (c_X12_farOf (h.1 152 x1.toNatClampNeg) (h.1 152 x2.toNatClampNeg) h e201) cv_RX12_427 (wl_119 h) rfl rfl rfl (Nat.le_of_ble_eq_true rfl) (Nat.le_of_ble_eq_true rfl) dX12_beginsLayings_201 ?_
    refine qt_iast (wl_153 h201) dX12_beginsLayings_204 E (fun h204 E => ?_)
    refine qt_iinc 2 (fun v205 => [(2, .int v205), (0, .ref (g.1 + 119)), (1, .int x1)]) dX12_beginsLayings_205 rfl ci_1 (Nat.le_of_ble_eq_true rfl) (fun _ => rfl) E (fun v205 E => ?_)
    refine qt_goto 171 dX12_beginsLayings_208 (by decide) ?_
    cases E
    exact qt_sub _ [1, 2, 0] rfl (G)
noncomputable def f_X12_beginsLayings_b171_loop (x1 : Int32) (x2 : Int32) (h : qa_M) : Option ((Int32 × qa_M) ⊕ qa_M) := qlp (fun sz : Int32 × Int32 × qa_M => f_X12_beginsLayings_b171 sz.1 sz.2.1 sz.2.2) (x1, x2, h)
theorem s_X12_beginsLayings_b171_loop {l : Launch} {g : qa_G} {d : Nat} {rz : Option Value} {hz : qa_M} (x1 : Int32) (x2 : Int32) (h : qa_M) {z : ((Int32 × qa_M) ⊕ qa_M)} (E : f_X12_beginsLayings_b171_loop x1 x2 h = some z) (G : (Sum.elim (fun (sz : Int32 × qa_M) => qt_At l g (yX12_beginsLayings, cX12_beginsLayings, 4, none) (d + 6) 0 0 161 [(0, .ref (g.1 + 119)), (1, .int sz.1)] [] sz.2 rz hz) (qg_v rz hz)) z) : qt_At l g (yX12_beginsLayings, cX12_beginsLayings, 4, none) (d + 6) 0 0 171 [(0, .ref (g.1 + 119)), (1, .int x1), (2, .int x2)] [] h rz hz :=
  qlp_ind (fun sz : Int32 × Int32 × qa_M => qt_At l g (yX12_beginsLayings, cX12_beginsLayings, 4, none) (d + 6) 0 0 171 [(0, .ref (g.1 + 119)), (1, .int sz.1), (2, .int sz.2.1)] [] sz.2.2 rz hz) (fun sz E => s_X12_beginsLayings_b171 sz.1 sz.2.1 sz.2.2 E G) (fun sz sz2 E ih => s_X12_beginsLayings_b171 sz.1 sz.2.1 sz.2.2 E ih) (x1, x2, h) E
noncomputable def f_X12_beginsLayings_b161 (x1 : Int32) (h : qa_M) : Option ((Int32 × qa_M) ⊕ qa_M) :=
  if (h.1 119 48) ≤ x1 then (
   qup (f_X12_beginsLayings_b217 h))
  else (
   qbd (0 : Int32) (fun v170 : Int32 =>
   f_X12_beginsLayings_b171_loop x1 v170 h))
set_option maxRecDepth 20000 in
theorem s_X12_beginsLayings_b161 {l : Launch} {g : qa_G} {d : Nat} {rz : Option Value} {hz : qa_M} (x1 : Int32) (h : qa_M) {z : ((Int32 × qa_M) ⊕ qa_M)} (E : f_X12_beginsLayings_b161 x1 h = some z) (G : (Sum.elim (fun (sz : Int32 × qa_M) => qt_At l g (yX12_beginsLayings, cX12_beginsLayings, 4, none) (d + 6) 0 0 161 [(0, .ref (g.1 + 119)), (1, .int sz.1)] [] sz.2 rz hz) (qg_v rz hz)) z) : qt_At l g (yX12_beginsLayings, cX12_beginsLayings, 4, none) (d + 6) 0 0 161 [(0, .ref (g.1 + 119)), (1, .int x1)] [] h rz hz := by
  unfold f_X12_beginsLayings_b161 at E
  refine qt_iload_n 1 dX12_beginsLayings_161 rfl rfl ?_
  refine qt_aload_n 0 dX12_beginsLayings_162 rfl rfl ?_
  refine qt_getI (wl_119 h) fe_RX12_424 rfl dX12_beginsLayings_163 ?_
  refine qt_icmp_ge 217 dX12_beginsLayings_166 (by decide) E (fun E => ?_) (fun E => ?_)
  · obtain ⟨z0_, E, G⟩ := qup_g E G
    exact qt_sub _ [0] rfl ((s_X12_beginsLayings_b217 h E G))
  · refine qt_iconst dX12_beginsLayings_169 ci_0 ?_
    refine qt_istore_n (fun v170 => [(2, .int v170), (0, .ref (g.1 + 119)), (1, .int x1)]) dX12_beginsLayings_170 rfl (Nat.le_of_ble_eq_true rfl) (fun _ => rfl) E (fun v170 E => ?_)
    exact qt_sub _ [1, 2, 0] rfl ((s_X12_beginsLayings_b171_loop x1 v170 h E G))
noncomputable def f_X12_beginsLayings_b161_loop (x1 : Int32) (h : qa_M) : Option qa_M := qlp (fun sz : Int32 × qa_M => f_X12_beginsLayings_b161 sz.1 sz.2) (x1, h)
theorem s_X12_beginsLayings_b161_loop {l : Launch} {g : qa_G} {d : Nat} {rz : Option Value} {hz : qa_M} (x1 : Int32) (h : qa_M) {z : qa_M} (E : f_X12_beginsLayings_b161_loop x1 h = some z) (G : (qg_v rz hz) z) : qt_At l g (yX12_beginsLayings, cX12_beginsLayings, 4, none) (d + 6) 0 0 161 [(0, .ref (g.1 + 119)), (1, .int x1)] [] h rz hz :=
  qlp_ind (fun sz : Int32 × qa_M => qt_At l g (yX12_beginsLayings, cX12_beginsLayings, 4, none) (d + 6) 0 0 161 [(0, .ref (g.1 + 119)), (1, .int sz.1)] [] sz.2 rz hz) (fun sz E => s_X12_beginsLayings_b161 sz.1 sz.2 E G) (fun sz sz2 E ih => s_X12_beginsLayings_b161 sz.1 sz.2 E ih) (x1, h) E
noncomputable def f_X12_beginsLayings_b159 (h : qa_M) : Option qa_M :=
  qbd (0 : Int32) (fun v160 : Int32 =>
  f_X12_beginsLayings_b161_loop v160 h)
set_option maxRecDepth 20000 in
theorem s_X12_beginsLayings_b159 {l : Launch} {g : qa_G} {d : Nat} {rz : Option Value} {hz : qa_M} (h : qa_M) {z : qa_M} (E : f_X12_beginsLayings_b159 h = some z) (G : (qg_v rz hz) z) : qt_At l g (yX12_beginsLayings, cX12_beginsLayings, 4, none) (d + 6) 0 0 159 [(0, .ref (g.1 + 119))] [] h rz hz := by
  unfold f_X12_beginsLayings_b159 at E
  refine qt_iconst dX12_beginsLayings_159 ci_0 ?_
  refine qt_istore_n (fun v160 => [(1, .int v160), (0, .ref (g.1 + 119))]) dX12_beginsLayings_160 rfl (Nat.le_of_ble_eq_true rfl) (fun _ => rfl) E (fun v160 E => ?_)
  exact qt_sub _ [1, 0] rfl ((s_X12_beginsLayings_b161_loop v160 h E G))
noncomputable def f_X12_beginsLayings_b153 (x1 : Int32) (h : qa_M) : Option ((Int32 × qa_M) ⊕ qa_M) :=
  qbd (x1 + (1 : Int32)) (fun v153 : Int32 =>
  some (.inl (v153, h)))
set_option maxRecDepth 20000 in
theorem s_X12_beginsLayings_b153 {l : Launch} {g : qa_G} {d : Nat} {rz : Option Value} {hz : qa_M} (x1 : Int32) (h : qa_M) {z : ((Int32 × qa_M) ⊕ qa_M)} (E : f_X12_beginsLayings_b153 x1 h = some z) (G : (Sum.elim (fun (sz : Int32 × qa_M) => qt_At l g (yX12_beginsLayings, cX12_beginsLayings, 4, none) (d + 6) 0 0 70 [(0, .ref (g.1 + 119)), (1, .int sz.1)] [] sz.2 rz hz) (qg_v rz hz)) z) : qt_At l g (yX12_beginsLayings, cX12_beginsLayings, 4, none) (d + 6) 0 0 153 [(0, .ref (g.1 + 119)), (1, .int x1)] [] h rz hz := by
  unfold f_X12_beginsLayings_b153 at E
  refine qt_iinc 1 (fun v153 => [(1, .int v153), (0, .ref (g.1 + 119))]) dX12_beginsLayings_153 rfl ci_1 (Nat.le_of_ble_eq_true rfl) (fun _ => rfl) E (fun v153 E => ?_)
  refine qt_goto 70 dX12_beginsLayings_156 (by decide) ?_
  cases E
  exact qt_sub _ [1, 0] rfl (G)
noncomputable def f_X12_beginsLayings_b145 (x1 : Int32) (x2 : Int32) (x3 : Int32) (s1 : Int32) (s2 : Int64) (s3 : Int64) (h : qa_M) : Option ((Int32 × Int32 × Int32 × qa_M) ⊕ ((Int32 × qa_M) ⊕ qa_M)) :=
  qck s1 4 (
  qbd (qw_J h 154 s1.toNatClampNeg (s2 ||| s3)) (fun h146 : qa_M =>
  qbd (x3 + (1 : Int32)) (fun v147 : Int32 =>
  some (.inl (x1, x2, v147, h146)))))
set_option maxRecDepth 20000 in
theorem s_X12_beginsLayings_b145 {l : Launch} {g : qa_G} {d : Nat} {rz : Option Value} {hz : qa_M} (x1 : Int32) (x2 : Int32) (x3 : Int32) (s1 : Int32) (s2 : Int64) (s3 : Int64) (h : qa_M) {z : ((Int32 × Int32 × Int32 × qa_M) ⊕ ((Int32 × qa_M) ⊕ qa_M))} (E : f_X12_beginsLayings_b145 x1 x2 x3 s1 s2 s3 h = some z) (G : (Sum.elim (fun (sz : Int32 × Int32 × Int32 × qa_M) => qt_At l g (yX12_beginsLayings, cX12_beginsLayings, 4, none) (d + 6) 0 0 96 [(0, .ref (g.1 + 119)), (1, .int sz.1), (2, .int sz.2.1), (3, .int sz.2.2.1)] [] sz.2.2.2 rz hz) (Sum.elim (fun (sz : Int32 × qa_M) => qt_At l g (yX12_beginsLayings, cX12_beginsLayings, 4, none) (d + 6) 0 0 70 [(0, .ref (g.1 + 119)), (1, .int sz.1)] [] sz.2 rz hz) (qg_v rz hz))) z) : qt_At l g (yX12_beginsLayings, cX12_beginsLayings, 4, none) (d + 6) 0 0 145 [(0, .ref (g.1 + 119)), (1, .int x1), (2, .int x2), (3, .int x3)] [.long s3, .long s2, .int s1, .ref (g.1 + 154)] h rz hz := by
  unfold f_X12_beginsLayings_b145 at E
  refine qt_lor dX12_beginsLayings_145 ?_
  refine qt_last (wl_154 h) dX12_beginsLayings_146 E (fun h146 E => ?_)
  refine qt_iinc 3 (fun v147 => [(3, .int v147), (0, .ref (g.1 + 119)), (1, .int x1), (2, .int x2)]) dX12_beginsLayings_147 rfl ci_1 (Nat.le_of_ble_eq_true rfl) (fun _ => rfl) E (fun v147 E => ?_)
  refine qt_goto 96 dX12_beginsLayings_150 (by decide) ?_
  cases E
  exact qt_sub _ [1, 2, 3, 0] rfl (G)
noncomputable def f_X12_beginsLayings_b144 (x1 : Int32) (x2 : Int32) (x3 : Int32) (s1 : Int32) (s2 : Int64) (h : qa_M) : Option ((Int32 × Int32 × Int32 × qa_M) ⊕ ((Int32 × qa_M) ⊕ qa_M)) :=
  f_X12_beginsLayings_b145 x1 x2 x3 s1 s2 (0 : Int64) h
set_option maxRecDepth 20000 in
theorem s_X12_beginsLayings_b144 {l : Launch} {g : qa_G} {d : Nat} {rz : Option Value} {hz : qa_M} (x1 : Int32) (x2 : Int32) (x3 : Int32) (s1 : Int32) (s2 : Int64) (h : qa_M) {z : ((Int32 × Int32 × Int32 × qa_M) ⊕ ((Int32 × qa_M) ⊕ qa_M))} (E : f_X12_beginsLayings_b144 x1 x2 x3 s1 s2 h = some z) (G : (Sum.elim (fun (sz : Int32 × Int32 × Int32 × qa_M) => qt_At l g (yX12_beginsLayings, cX12_beginsLayings, 4, none) (d + 6) 0 0 96 [(0, .ref (g.1 + 119)), (1, .int sz.1), (2, .int sz.2.1), (3, .int sz.2.2.1)] [] sz.2.2.2 rz hz) (Sum.elim (fun (sz : Int32 × qa_M) => qt_At l g (yX12_beginsLayings, cX12_beginsLayings, 4, none) (d + 6) 0 0 70 [(0, .ref (g.1 + 119)), (1, .int sz.1)] [] sz.2 rz hz) (qg_v rz hz))) z) : qt_At l g (yX12_beginsLayings, cX12_beginsLayings, 4, none) (d + 6) 0 0 144 [(0, .ref (g.1 + 119)), (1, .int x1), (2, .int x2), (3, .int x3)] [.long s2, .int s1, .ref (g.1 + 154)] h rz hz := by
  unfold f_X12_beginsLayings_b144 at E
  refine qt_lconst dX12_beginsLayings_144 cl_0 ?_
  exact qt_sub _ [0, 1, 2, 3] rfl ((s_X12_beginsLayings_b145 x1 x2 x3 s1 s2 (0 : Int64) h E G))
noncomputable def f_X12_beginsLayings_b96 (x1 : Int32) (x2 : Int32) (x3 : Int32) (h : qa_M) : Option ((Int32 × Int32 × Int32 × qa_M) ⊕ ((Int32 × qa_M) ⊕ qa_M)) :=
  qck (4 : Int32) 8 (
  if (h.1 120 (4 : Int32).toNatClampNeg) ≤ x3 then (
   qup (f_X12_beginsLayings_b153 x1 h))
  else (
   qck x3 4 (
   qbn (m_X12_isThere x1 h) (fun (c115 : Int32) (h115 : qa_M) =>
   if c115 = 0 then (
    f_X12_beginsLayings_b144 x1 x2 x3 x3 (h.2.1 154 x3.toNatClampNeg) h115)
   else (
    qbn (m_X12_isWood x1 h115) (fun (c123 : Int32) (h123 : qa_M) =>
    if c123 = 0 then (
     qbn (m_X12_has x2.toInt64 x3 h123) (fun (c132 : Int32) (h132 : qa_M) =>
     if c132 = 0 then (
      f_X12_beginsLayings_b145 x1 x2 x3 x3 (h.2.1 154 x3.toNatClampNeg) (q_lshl (1 : Int64) x1) h132)
     else (
      f_X12_beginsLayings_b144 x1 x2 x3 x3 (h.2.1 154 x3.toNatClampNeg) h132)))
    else (
     f_X12_beginsLayings_b144 x1 x2 x3 x3 (h.2.1 154 x3.toNatClampNeg) h123)))))))
set_option maxRecDepth 20000 in
theorem s_X12_beginsLayings_b96 {l : Launch} {g : qa_G} {d : Nat} {rz : Option Value} {hz : qa_M} (x1 : Int32) (x2 : Int32) (x3 : Int32) (h : qa_M) {z : ((Int32 × Int32 × Int32 × qa_M) ⊕ ((Int32 × qa_M) ⊕ qa_M))} (E : f_X12_beginsLayings_b96 x1 x2 x3 h = some z) (G : (Sum.elim (fun (sz : Int32 × Int32 × Int32 × qa_M) => qt_At l g (yX12_beginsLayings, cX12_beginsLayings, 4, none) (d + 6) 0 0 96 [(0, .ref (g.1 + 119)), (1, .int sz.1), (2, .int sz.2.1), (3, .int sz.2.2.1)] [] sz.2.2.2 rz hz) (Sum.elim (fun (sz : Int32 × qa_M) => qt_At l g (yX12_beginsLayings, cX12_beginsLayings, 4, none) (d + 6) 0 0 70 [(0, .ref (g.1 + 119)), (1, .int sz.1)] [] sz.2 rz hz) (qg_v rz hz))) z) : qt_At l g (yX12_beginsLayings, cX12_beginsLayings, 4, none) (d + 6) 0 0 96 [(0, .ref (g.1 + 119)), (1, .int x1), (2, .int x2), (3, .int x3)] [] h rz hz := by
  unfold f_X12_beginsLayings_b96 at E
  refine qt_iload_n 3 dX12_beginsLayings_96 rfl rfl ?_
  refine qt_aload_n 0 dX12_beginsLayings_97 rfl rfl ?_
  refine qt_getS 120 (wl_119 h) fe_RX12_7 rfl dX12_beginsLayings_98 ?_
  refine qt_iconst dX12_beginsLayings_101 ci_4 ?_
  refine qt_iald (wl_120 h) dX12_beginsLayings_102 E (fun E => ?_)
  refine qt_icmp_ge 153 dX12_beginsLayings_103 (by decide) E (fun E => ?_) (fun E => ?_)
  · obtain ⟨z0_, E, G⟩ := qup_g E G
    exact qt_sub _ [0, 1] rfl ((s_X12_beginsLayings_b153 x1 h E G))
  · refine qt_aload_n 0 dX12_beginsLayings_106 rfl rfl ?_
    refine qt_getS 154 (wl_119 h) fe_RX12_118 rfl dX12_beginsLayings_107 ?_
    refine qt_iload_n 3 dX12_beginsLayings_110 rfl rfl ?_
    refine qt_dup2_11 dX12_beginsLayings_111 rfl rfl ?_
    refine qt_lald (wl_154 h) dX12_beginsLayings_112 E (fun E => ?_)
    refine qt_aload_n 0 dX12_beginsLayings_113 rfl rfl ?_
    refine qt_iload_n 1 dX12_beginsLayings_114 rfl rfl ?_
    obtain ⟨c115, h115, e115, E⟩ := qbn_el E
    refine qt_callVi (b2 := 0) [.int x1] (c_X12_isThere x1 h e115) cv_RX12_187 (wl_119 h) rfl rfl rfl (Nat.le_of_ble_eq_true rfl) (Nat.le_of_ble_eq_true rfl) dX12_beginsLayings_115 ?_
    refine qt_if_eq 144 dX12_beginsLayings_118 (by decide) E (fun E => ?_) (fun E => ?_)
    · exact qt_sub _ [0, 1, 2, 3] rfl ((s_X12_beginsLayings_b144 x1 x2 x3 x3 (h.2.1 154 x3.toNatClampNeg) h115 E G))
    · refine qt_aload_n 0 dX12_beginsLayings_121 rfl rfl ?_
      refine qt_iload_n 1 dX12_beginsLayings_122 rfl rfl ?_
      obtain ⟨c123, h123, e123, E⟩ := qbn_el E
      refine qt_callVi (b2 := 0) [.int x1] (c_X12_isWood x1 h115 e123) cv_RX12_183 (wl_119 h115) rfl rfl rfl (Nat.le_of_ble_eq_true rfl) (Nat.le_of_ble_eq_true rfl) dX12_beginsLayings_123 ?_
      refine qt_if_ne 144 dX12_beginsLayings_126 (by decide) E (fun E => ?_) (fun E => ?_)
      · exact qt_sub _ [0, 1, 2, 3] rfl ((s_X12_beginsLayings_b144 x1 x2 x3 x3 (h.2.1 154 x3.toNatClampNeg) h123 E G))
      · refine qt_iload_n 2 dX12_beginsLayings_129 rfl rfl ?_
        refine qt_i2l dX12_beginsLayings_130 ?_
        refine qt_iload_n 3 dX12_beginsLayings_131 rfl rfl ?_
        obtain ⟨c132, h132, e132, E⟩ := qbn_el E
        refine qt_callSi (b2 := 0) [.long x2.toInt64, .int x3] (c_X12_has x2.toInt64 x3 h123 e132) cv_RX12_211 rfl (Nat.le_of_ble_eq_true rfl) (Nat.le_of_ble_eq_true rfl) dX12_beginsLayings_132 ?_
        refine qt_if_ne 144 dX12_beginsLayings_135 (by decide) E (fun E => ?_) (fun E => ?_)
        · exact qt_sub _ [0, 1, 2, 3] rfl ((s_X12_beginsLayings_b144 x1 x2 x3 x3 (h.2.1 154 x3.toNatClampNeg) h132 E G))
        · refine qt_lconst dX12_beginsLayings_138 cl_1 ?_
          refine qt_iload_n 1 dX12_beginsLayings_139 rfl rfl ?_
          refine qt_lshl dX12_beginsLayings_140 ?_
          refine qt_goto 145 dX12_beginsLayings_141 (by decide) ?_
          exact qt_sub _ [0, 1, 2, 3] rfl ((s_X12_beginsLayings_b145 x1 x2 x3 x3 (h.2.1 154 x3.toNatClampNeg) (q_lshl (1 : Int64) x1) h132 E G))
noncomputable def f_X12_beginsLayings_b96_loop (x1 : Int32) (x2 : Int32) (x3 : Int32) (h : qa_M) : Option ((Int32 × qa_M) ⊕ qa_M) := qlp (fun sz : Int32 × Int32 × Int32 × qa_M => f_X12_beginsLayings_b96 sz.1 sz.2.1 sz.2.2.1 sz.2.2.2) (x1, x2, x3, h)
theorem s_X12_beginsLayings_b96_loop {l : Launch} {g : qa_G} {d : Nat} {rz : Option Value} {hz : qa_M} (x1 : Int32) (x2 : Int32) (x3 : Int32) (h : qa_M) {z : ((Int32 × qa_M) ⊕ qa_M)} (E : f_X12_beginsLayings_b96_loop x1 x2 x3 h = some z) (G : (Sum.elim (fun (sz : Int32 × qa_M) => qt_At l g (yX12_beginsLayings, cX12_beginsLayings, 4, none) (d + 6) 0 0 70 [(0, .ref (g.1 + 119)), (1, .int sz.1)] [] sz.2 rz hz) (qg_v rz hz)) z) : qt_At l g (yX12_beginsLayings, cX12_beginsLayings, 4, none) (d + 6) 0 0 96 [(0, .ref (g.1 + 119)), (1, .int x1), (2, .int x2), (3, .int x3)] [] h rz hz :=
  qlp_ind (fun sz : Int32 × Int32 × Int32 × qa_M => qt_At l g (yX12_beginsLayings, cX12_beginsLayings, 4, none) (d + 6) 0 0 96 [(0, .ref (g.1 + 119)), (1, .int sz.1), (2, .int sz.2.1), (3, .int sz.2.2.1)] [] sz.2.2.2 rz hz) (fun sz E => s_X12_beginsLayings_b96 sz.1 sz.2.1 sz.2.2.1 sz.2.2.2 E G) (fun sz sz2 E ih => s_X12_beginsLayings_b96 sz.1 sz.2.1 sz.2.2.1 sz.2.2.2 E ih) (x1, x2, x3, h) E
noncomputable def f_X12_beginsLayings_b93 (x1 : Int32) (s0 : Int32) (h : qa_M) : Option ((Int32 × qa_M) ⊕ qa_M) :=
  qbd s0 (fun v93 : Int32 =>
  qbd (0 : Int32) (fun v95 : Int32 =>
  f_X12_beginsLayings_b96_loop x1 v93 v95 h))
set_option maxRecDepth 20000 in
theorem s_X12_beginsLayings_b93 {l : Launch} {g : qa_G} {d : Nat} {rz : Option Value} {hz : qa_M} (x1 : Int32) (s0 : Int32) (h : qa_M) {z : ((Int32 × qa_M) ⊕ qa_M)} (E : f_X12_beginsLayings_b93 x1 s0 h = some z) (G : (Sum.elim (fun (sz : Int32 × qa_M) => qt_At l g (yX12_beginsLayings, cX12_beginsLayings, 4, none) (d + 6) 0 0 70 [(0, .ref (g.1 + 119)), (1, .int sz.1)] [] sz.2 rz hz) (qg_v rz hz)) z) : qt_At l g (yX12_beginsLayings, cX12_beginsLayings, 4, none) (d + 6) 0 0 93 [(0, .ref (g.1 + 119)), (1, .int x1)] [.int s0] h rz hz := by
  unfold f_X12_beginsLayings_b93 at E
  refine qt_istore_n (fun v93 => [(2, .int v93), (0, .ref (g.1 + 119)), (1, .int x1)]) dX12_beginsLayings_93 rfl (Nat.le_of_ble_eq_true rfl) (fun _ => rfl) E (fun v93 E => ?_)
  refine qt_iconst dX12_beginsLayings_94 ci_0 ?_
  refine qt_istore_n (fun v95 => [(3, .int v95), (2, .int v93), (0, .ref (g.1 + 119)), (1, .int x1)]) dX12_beginsLayings_95 rfl (Nat.le_of_ble_eq_true rfl) (fun _ => rfl) E (fun v95 E => ?_)
  exact qt_sub _ [2, 3, 1, 0] rfl ((s_X12_beginsLayings_b96_loop x1 v93 v95 h E G))
noncomputable def f_X12_beginsLayings_b70 (x1 : Int32) (h : qa_M) : Option ((Int32 × qa_M) ⊕ qa_M) :=
  if (36 : Int32) ≤ x1 then (
   qup (f_X12_beginsLayings_b159 h))
  else (
   qbn (m_X12_isThere x1 h) (fun (c78 : Int32) (h78 : qa_M) =>
   if c78 = 0 then (
    f_X12_beginsLayings_b93 x1 (0 : Int32) h78)
   else (
    qbn (m_X12_barred x1 h78) (fun (c86 : Int32) (h86 : qa_M) =>
    f_X12_beginsLayings_b93 x1 c86 h86))))
set_option maxRecDepth 20000 in
theorem s_X12_beginsLayings_b70 {l : Launch} {g : qa_G} {d : Nat} {rz : Option Value} {hz : qa_M} (x1 : Int32) (h : qa_M) {z : ((Int32 × qa_M) ⊕ qa_M)} (E : f_X12_beginsLayings_b70 x1 h = some z) (G : (Sum.elim (fun (sz : Int32 × qa_M) => qt_At l g (yX12_beginsLayings, cX12_beginsLayings, 4, none) (d + 6) 0 0 70 [(0, .ref (g.1 + 119)), (1, .int sz.1)] [] sz.2 rz hz) (qg_v rz hz)) z) : qt_At l g (yX12_beginsLayings, cX12_beginsLayings, 4, none) (d + 6) 0 0 70 [(0, .ref (g.1 + 119)), (1, .int x1)] [] h rz hz := by
  unfold f_X12_beginsLayings_b70 at E
  refine qt_iload_n 1 dX12_beginsLayings_70 rfl rfl ?_
  refine qt_bipush dX12_beginsLayings_71 cb_36 ?_
  refine qt_icmp_ge 159 dX12_beginsLayings_73 (by decide) E (fun E => ?_) (fun E => ?_)
  · obtain ⟨z0_, E, G⟩ := qup_g E G
    exact qt_sub _ [0] rfl ((s_X12_beginsLayings_b159 h E G))
  · refine qt_aload_n 0 dX12_beginsLayings_76 rfl rfl ?_
    refine qt_iload_n 1 dX12_beginsLayings_77 rfl rfl ?_
    obtain ⟨c78, h78, e78, E⟩ := qbn_el E
    refine qt_callVi (b2 := 0) [.int x1] (c_X12_isThere x1 h e78) cv_RX12_187 (wl_119 h) rfl rfl rfl (Nat.le_of_ble_eq_true rfl) (Nat.le_of_ble_eq_true rfl) dX12_beginsLayings_78 ?_
    refine qt_if_eq 92 dX12_beginsLayings_81 (by decide) E (fun E => ?_) (fun E => ?_)
    · refine qt_iconst dX12_beginsLayings_92 ci_0 ?_
      exact qt_sub _ [0, 1] rfl ((s_X12_beginsLayings_b93 x1 (0 : Int32) h78 E G))
    · refine qt_aload_n 0 dX12_beginsLayings_84 rfl rfl ?_
      refine qt_iload_n 1 dX12_beginsLayings_85 rfl rfl ?_
      obtain ⟨c86, h86, e86, E⟩ := qbn_el E
      refine qt_callVi (b2 := 0) [.int x1] (c_X12_barred x1 h78 e86) cv_RX12_419 (wl_119 h78) rfl rfl rfl (Nat.le_of_ble_eq_true rfl) (Nat.le_of_ble_eq_true rfl) dX12_beginsLayings_86 ?_
      refine qt_goto 93 dX12_beginsLayings_89 (by decide) ?_
      exact qt_sub _ [0, 1] rfl ((s_X12_beginsLayings_b93 x1 c86 h86 E G))
noncomputable def f_X12_beginsLayings_b70_loop (x1 : Int32) (h : qa_M) : Option qa_M := qlp (fun sz : Int32 × qa_M => f_X12_beginsLayings_b70 sz.1 sz.2) (x1, h)
theorem s_X12_beginsLayings_b70_loop {l : Launch} {g : qa_G} {d : Nat} {rz : Option Value} {hz : qa_M} (x1 : Int32) (h : qa_M) {z : qa_M} (E : f_X12_beginsLayings_b70_loop x1 h = some z) (G : (qg_v rz hz) z) : qt_At l g (yX12_beginsLayings, cX12_beginsLayings, 4, none) (d + 6) 0 0 70 [(0, .ref (g.1 + 119)), (1, .int x1)] [] h rz hz :=
  qlp_ind (fun sz : Int32 × qa_M => qt_At l g (yX12_beginsLayings, cX12_beginsLayings, 4, none) (d + 6) 0 0 70 [(0, .ref (g.1 + 119)), (1, .int sz.1)] [] sz.2 rz hz) (fun sz E => s_X12_beginsLayings_b70 sz.1 sz.2 E G) (fun sz sz2 E ih => s_X12_beginsLayings_b70 sz.1 sz.2 E ih) (x1, h) E
noncomputable def f_X12_beginsLayings_b68 (h : qa_M) : Option qa_M :=
  qbd (0 : Int32) (fun v69 : Int32 =>
  f_X12_beginsLayings_b70_loop v69 h)
set_option maxRecDepth 20000 in
theorem s_X12_beginsLayings_b68 {l : Launch} {g : qa_G} {d : Nat} {rz : Option Value} {hz : qa_M} (h : qa_M) {z : qa_M} (E : f_X12_beginsLayings_b68 h = some z) (G : (qg_v rz hz) z) : qt_At l g (yX12_beginsLayings, cX12_beginsLayings, 4, none) (d + 6) 0 0 68 [(0, .ref (g.1 + 119))] [] h rz hz := by
  unfold f_X12_beginsLayings_b68 at E
  refine qt_iconst dX12_beginsLayings_68 ci_0 ?_
  refine qt_istore_n (fun v69 => [(1, .int v69), (0, .ref (g.1 + 119))]) dX12_beginsLayings_69 rfl (Nat.le_of_ble_eq_true rfl) (fun _ => rfl) E (fun v69 E => ?_)
  exact qt_sub _ [1, 0] rfl ((s_X12_beginsLayings_b70_loop v69 h E G))
noncomputable def f_X12_beginsLayings_b62 (x1 : Int32) (h : qa_M) : Option ((Int32 × qa_M) ⊕ qa_M) :=
  qbd (x1 + (1 : Int32)) (fun v62 : Int32 =>
  some (.inl (v62, h)))
set_option maxRecDepth 20000 in
theorem s_X12_beginsLayings_b62 {l : Launch} {g : qa_G} {d : Nat} {rz : Option Value} {hz : qa_M} (x1 : Int32) (h : qa_M) {z : ((Int32 × qa_M) ⊕ qa_M)} (E : f_X12_beginsLayings_b62 x1 h = some z) (G : (Sum.elim (fun (sz : Int32 × qa_M) => qt_At l g (yX12_beginsLayings, cX12_beginsLayings, 4, none) (d + 6) 0 0 7 [(0, .ref (g.1 + 119)), (1, .int sz.1)] [] sz.2 rz hz) (qg_v rz hz)) z) : qt_At l g (yX12_beginsLayings, cX12_beginsLayings, 4, none) (d + 6) 0 0 62 [(0, .ref (g.1 + 119)), (1, .int x1)] [] h rz hz := by
  unfold f_X12_beginsLayings_b62 at E
  refine qt_iinc 1 (fun v62 => [(1, .int v62), (0, .ref (g.1 + 119))]) dX12_beginsLayings_62 rfl ci_1 (Nat.le_of_ble_eq_true rfl) (fun _ => rfl) E (fun v62 E => ?_)
  refine qt_goto 7 dX12_beginsLayings_65 (by decide) ?_
  cases E
  exact qt_sub _ [1, 0] rfl (G)
noncomputable def f_X12_beginsLayings_b26 (x1 : Int32) (x2 : Int32) (h : qa_M) : Option ((Int32 × Int32 × qa_M) ⊕ ((Int32 × qa_M) ⊕ qa_M)) :=
  qck x1 4 (
  if (h.1 126 x1.toNatClampNeg) ≤ x2 then (
   qup (f_X12_beginsLayings_b62 x1 h))
  else (
   qck (h.1 119 48) 4 (
   qbd (qw_I h 152 (h.1 119 48).toNatClampNeg x1) (fun h45 : qa_M =>
   qbd (qw_I h45 119 48 ((h45.1 119 48) + (1 : Int32))) (fun h53 : qa_M =>
   qbd (x2 + (1 : Int32)) (fun v56 : Int32 =>
   some (.inl (x1, v56, h53))))))))
set_option maxRecDepth 20000 in
theorem s_X12_beginsLayings_b26 {l : Launch} {g : qa_G} {d : Nat} {rz : Option Value} {hz : qa_M} (x1 : Int32) (x2 : Int32) (h : qa_M) {z : ((Int32 × Int32 × qa_M) ⊕ ((Int32 × qa_M) ⊕ qa_M))} (E : f_X12_beginsLayings_b26 x1 x2 h = some z) (G : (Sum.elim (fun (sz : Int32 × Int32 × qa_M) => qt_At l g (yX12_beginsLayings, cX12_beginsLayings, 4, none) (d + 6) 0 0 26 [(0, .ref (g.1 + 119)), (1, .int sz.1), (2, .int sz.2.1)] [] sz.2.2 rz hz) (Sum.elim (fun (sz : Int32 × qa_M) => qt_At l g (yX12_beginsLayings, cX12_beginsLayings, 4, none) (d + 6) 0 0 7 [(0, .ref (g.1 + 119)), (1, .int sz.1)] [] sz.2 rz hz) (qg_v rz hz))) z) : qt_At l g (yX12_beginsLayings, cX12_beginsLayings, 4, none) (d + 6) 0 0 26 [(0, .ref (g.1 + 119)), (1, .int x1), (2, .int x2)] [] h rz hz := by
  unfold f_X12_beginsLayings_b26 at E
  refine qt_iload_n 2 dX12_beginsLayings_26 rfl rfl ?_
  refine qt_aload_n 0 dX12_beginsLayings_27 rfl rfl ?_
  refine qt_getS 126 (wl_119 h) fe_RX12_28 rfl dX12_beginsLayings_28 ?_
  refine qt_iload_n 1 dX12_beginsLayings_31 rfl rfl ?_
  refine qt_iald (wl_126 h) dX12_beginsLayings_32 E (fun E => ?_)
  refine qt_icmp_ge 62 dX12_beginsLayings_33 (by decide) E (fun E => ?_) (fun E => ?_)
  · obtain ⟨z0_, E, G⟩ := qup_g E G
    exact qt_sub _ [0, 1] rfl ((s_X12_beginsLayings_b62 x1 h E G))
  · refine qt_aload_n 0 dX12_beginsLayings_36 rfl rfl ?_
    refine qt_getS 152 (wl_119 h) fe_RX12_112 rfl dX12_beginsLayings_37 ?_
    refine qt_aload_n 0 dX12_beginsLayings_40 rfl rfl ?_
    refine qt_getI (wl_119 h) fe_RX12_424 rfl dX12_beginsLayings_41 ?_
    refine qt_iload_n 1 dX12_beginsLayings_44 rfl rfl ?_
    refine qt_iast (wl_152 h) dX12_beginsLayings_45 E (fun h45 E => ?_)
    refine qt_aload_n 0 dX12_beginsLayings_46 rfl rfl ?_
    refine qt_dup dX12_beginsLayings_47 rfl ?_
    refine qt_getI (wl_119 h45) fe_RX12_424 rfl dX12_beginsLayings_48 ?_
    refine qt_iconst dX12_beginsLayings_51 ci_1 ?_
    refine qt_iadd dX12_beginsLayings_52 ?_
    refine qt_putI (wl_119 h45) fd_RX12_424 rfl rfl rfl dX12_beginsLayings_53 E (fun h53 E => ?_)
    refine qt_iinc 2 (fun v56 => [(2, .int v56), (0, .ref (g.1 + 119)), (1, .int x1)]) dX12_beginsLayings_56 rfl ci_1 (Nat.le_of_ble_eq_true rfl) (fun _ => rfl) E (fun v56 E => ?_)
    refine qt_goto 26 dX12_beginsLayings_59 (by decide) ?_
    cases E
    exact qt_sub _ [1, 2, 0] rfl (G)
noncomputable def f_X12_beginsLayings_b26_loop (x1 : Int32) (x2 : Int32) (h : qa_M) : Option ((Int32 × qa_M) ⊕ qa_M) := qlp (fun sz : Int32 × Int32 × qa_M => f_X12_beginsLayings_b26 sz.1 sz.2.1 sz.2.2) (x1, x2, h)
theorem s_X12_beginsLayings_b26_loop {l : Launch} {g : qa_G} {d : Nat} {rz : Option Value} {hz : qa_M} (x1 : Int32) (x2 : Int32) (h : qa_M) {z : ((Int32 × qa_M) ⊕ qa_M)} (E : f_X12_beginsLayings_b26_loop x1 x2 h = some z) (G : (Sum.elim (fun (sz : Int32 × qa_M) => qt_At l g (yX12_beginsLayings, cX12_beginsLayings, 4, none) (d + 6) 0 0 7 [(0, .ref (g.1 + 119)), (1, .int sz.1)] [] sz.2 rz hz) (qg_v rz hz)) z) : qt_At l g (yX12_beginsLayings, cX12_beginsLayings, 4, none) (d + 6) 0 0 26 [(0, .ref (g.1 + 119)), (1, .int x1), (2, .int x2)] [] h rz hz :=
  qlp_ind (fun sz : Int32 × Int32 × qa_M => qt_At l g (yX12_beginsLayings, cX12_beginsLayings, 4, none) (d + 6) 0 0 26 [(0, .ref (g.1 + 119)), (1, .int sz.1), (2, .int sz.2.1)] [] sz.2.2 rz hz) (fun sz E => s_X12_beginsLayings_b26 sz.1 sz.2.1 sz.2.2 E G) (fun sz sz2 E ih => s_X12_beginsLayings_b26 sz.1 sz.2.1 sz.2.2 E ih) (x1, x2, h) E
noncomputable def f_X12_beginsLayings_b7 (x1 : Int32) (h : qa_M) : Option ((Int32 × qa_M) ⊕ qa_M) :=
  qck (4 : Int32) 8 (
  if (h.1 120 (4 : Int32).toNatClampNeg) ≤ x1 then (
   qup (f_X12_beginsLayings_b68 h))
  else (
   qck x1 4 (
   qbd (qw_J h 154 x1.toNatClampNeg (0 : Int64)) (fun h23 : qa_M =>
   qbd (0 : Int32) (fun v25 : Int32 =>
   f_X12_beginsLayings_b26_loop x1 v25 h23)))))
set_option maxRecDepth 20000 in
theorem s_X12_beginsLayings_b7 {l : Launch} {g : qa_G} {d : Nat} {rz : Option Value} {hz : qa_M} (x1 : Int32) (h : qa_M) {z : ((Int32 × qa_M) ⊕ qa_M)} (E : f_X12_beginsLayings_b7 x1 h = some z) (G : (Sum.elim (fun (sz : Int32 × qa_M) => qt_At l g (yX12_beginsLayings, cX12_beginsLayings, 4, none) (d + 6) 0 0 7 [(0, .ref (g.1 + 119)), (1, .int sz.1)] [] sz.2 rz hz) (qg_v rz hz)) z) : qt_At l g (yX12_beginsLayings, cX12_beginsLayings, 4, none) (d + 6) 0 0 7 [(0, .ref (g.1 + 119)), (1, .int x1)] [] h rz hz := by
  unfold f_X12_beginsLayings_b7 at E
  refine qt_iload_n 1 dX12_beginsLayings_7 rfl rfl ?_
  refine qt_aload_n 0 dX12_beginsLayings_8 rfl rfl ?_
  refine qt_getS 120 (wl_119 h) fe_RX12_7 rfl dX12_beginsLayings_9 ?_
  refine qt_iconst dX12_beginsLayings_12 ci_4 ?_
  refine qt_iald (wl_120 h) dX12_beginsLayings_13 E (fun E => ?_)
  refine qt_icmp_ge 68 dX12_beginsLayings_14 (by decide) E (fun E => ?_) (fun E => ?_)
  · obtain ⟨z0_, E, G⟩ := qup_g E G
    exact qt_sub _ [0] rfl ((s_X12_beginsLayings_b68 h E G))
  · refine qt_aload_n 0 dX12_beginsLayings_17 rfl rfl ?_
    refine qt_getS 154 (wl_119 h) fe_RX12_118 rfl dX12_beginsLayings_18 ?_
    refine qt_iload_n 1 dX12_beginsLayings_21 rfl rfl ?_
    refine qt_lconst dX12_beginsLayings_22 cl_0 ?_
    refine qt_last (wl_154 h) dX12_beginsLayings_23 E (fun h23 E => ?_)
    refine qt_iconst dX12_beginsLayings_24 ci_0 ?_
    refine qt_istore_n (fun v25 => [(2, .int v25), (0, .ref (g.1 + 119)), (1, .int x1)]) dX12_beginsLayings_25 rfl (Nat.le_of_ble_eq_true rfl) (fun _ => rfl) E (fun v25 E => ?_)
    exact qt_sub _ [1, 2, 0] rfl ((s_X12_beginsLayings_b26_loop x1 v25 h23 E G))
noncomputable def f_X12_beginsLayings_b7_loop (x1 : Int32) (h : qa_M) : Option qa_M := qlp (fun sz : Int32 × qa_M => f_X12_beginsLayings_b7 sz.1 sz.2) (x1, h)
theorem s_X12_beginsLayings_b7_loop {l : Launch} {g : qa_G} {d : Nat} {rz : Option Value} {hz : qa_M} (x1 : Int32) (h : qa_M) {z : qa_M} (E : f_X12_beginsLayings_b7_loop x1 h = some z) (G : (qg_v rz hz) z) : qt_At l g (yX12_beginsLayings, cX12_beginsLayings, 4, none) (d + 6) 0 0 7 [(0, .ref (g.1 + 119)), (1, .int x1)] [] h rz hz :=
  qlp_ind (fun sz : Int32 × qa_M => qt_At l g (yX12_beginsLayings, cX12_beginsLayings, 4, none) (d + 6) 0 0 7 [(0, .ref (g.1 + 119)), (1, .int sz.1)] [] sz.2 rz hz) (fun sz E => s_X12_beginsLayings_b7 sz.1 sz.2 E G) (fun sz sz2 E ih => s_X12_beginsLayings_b7 sz.1 sz.2 E ih) (x1, h) E
noncomputable def m_X12_beginsLayings (h : qa_M) : Option qa_M :=
  qbd (qw_I h 119 48 (0 : Int32)) (fun h2 : qa_M =>
  qbd (0 : Int32) (fun v6 : Int32 =>
  f_X12_beginsLayings_b7_loop v6 h2))
set_option maxRecDepth 20000 in
theorem c_X12_beginsLayings {l : Launch} {g : qa_G} {d : Nat} (h : qa_M) {h1 : qa_M} (E : m_X12_beginsLayings h = some h1) : qt_Met l g (yX12_beginsLayings, cX12_beginsLayings, 4, none) (d + 6) 0 [.ref (g.1 + 119)] h none h1 := by
  refine qt_Met.of (plainFor_of_name (by decide)) (Nat.le_of_ble_eq_true rfl) ?_
  have G : qg_v none h1 (h1) := ⟨rfl, rfl⟩
  unfold m_X12_beginsLayings at E
  refine qt_aload_n 0 dX12_beginsLayings_0 rfl rfl ?_
  refine qt_iconst dX12_beginsLayings_1 ci_0 ?_
  refine qt_putI (wl_119 h) fd_RX12_424 rfl rfl rfl dX12_beginsLayings_2 E (fun h2 E => ?_)
  refine qt_iconst dX12_beginsLayings_5 ci_0 ?_
  refine qt_istore_n (fun v6 => [(1, .int v6), (0, .ref (g.1 + 119))]) dX12_beginsLayings_6 rfl (Nat.le_of_ble_eq_true rfl) (fun _ => rfl) E (fun v6 E => ?_)
  exact qt_sub _ [1, 0] rfl ((s_X12_beginsLayings_b7_loop v6 h2 E G))
noncomputable def f_X12_mayStand_b59 (x1 : Int32) (x2 : Int32) (x4 : Int32) (s0 : Int32) (h : qa_M) : Option ((Int32 × Int32 × Int32 × Int32 × qa_M) ⊕ (Int32 × qa_M)) :=
  qbd s0 (fun v59 : Int32 =>
  qbd (x4 + (1 : Int32)) (fun v60 : Int32 =>
  some (.inl (x1, x2, v59, v60, h))))
set_option maxRecDepth 20000 in
theorem s_X12_mayStand_b59 {l : Launch} {g : qa_G} {d : Nat} {rz : Option Value} {hz : qa_M} (x1 : Int32) (x2 : Int32) (x4 : Int32) (s0 : Int32) (h : qa_M) {z : ((Int32 × Int32 × Int32 × Int32 × qa_M) ⊕ (Int32 × qa_M))} (E : f_X12_mayStand_b59 x1 x2 x4 s0 h = some z) (G : (Sum.elim (fun (sz : Int32 × Int32 × Int32 × Int32 × qa_M) => qt_At l g (yX12_mayStand, cX12_mayStand, 5, (some .boolean)) (d + 2) 0 0 19 [(0, .ref (g.1 + 119)), (1, .int sz.1), (2, .int sz.2.1), (3, .int sz.2.2.1), (4, .int sz.2.2.2.1)] [] sz.2.2.2.2 rz hz) (qg_i rz hz)) z) : qt_At l g (yX12_mayStand, cX12_mayStand, 5, (some .boolean)) (d + 2) 0 0 59 [(0, .ref (g.1 + 119)), (1, .int x1), (2, .int x2), (4, .int x4)] [.int s0] h rz hz := by
  unfold f_X12_mayStand_b59 at E
  refine qt_istore_n (fun v59 => [(3, .int v59), (0, .ref (g.1 + 119)), (1, .int x1), (2, .int x2), (4, .int x4)]) dX12_mayStand_59 rfl (Nat.le_of_ble_eq_true rfl) (fun _ => rfl) E (fun v59 E => ?_)
  refine qt_iinc 4 (fun v60 => [(4, .int v60), (3, .int v59), (0, .ref (g.1 + 119)), (1, .int x1), (2, .int x2)]) dX12_mayStand_60 rfl ci_1 (Nat.le_of_ble_eq_true rfl) (fun _ => rfl) E (fun v60 E => ?_)
  refine qt_goto 19 dX12_mayStand_63 (by decide) ?_
  cases E
  exact qt_sub _ [2, 3, 4, 1, 0] rfl (G)
noncomputable def f_X12_mayStand_b19 (x1 : Int32) (x2 : Int32) (x3 : Int32) (x4 : Int32) (h : qa_M) : Option ((Int32 × Int32 × Int32 × Int32 × qa_M) ⊕ (Int32 × qa_M)) :=
  if x1 ≤ x4 then (
   qpr (x3 = 0 ∨ x3 = 1) (
   qup (some (x3, h))))
  else (
   if x3 = 0 then (
    qpr (x3 = 0 ∨ x3 = 1) (
    qup (some (x3, h))))
   else (
    qck x4 4 (
    qbn (m_X12_apartOf (h.1 151 x4.toNatClampNeg) x2 h) (fun (c37 : Int32) (h37 : qa_M) =>
    qck (((4 : Int32) * x1) + x4) 16 (
    if c37 < (h37.1 153 (((4 : Int32) * x1) + x4).toNatClampNeg) then (
     f_X12_mayStand_b59 x1 x2 x4 (0 : Int32) h37)
    else (
     f_X12_mayStand_b59 x1 x2 x4 (1 : Int32) h37))))))
set_option maxRecDepth 20000 in
theorem s_X12_mayStand_b19 {l : Launch} {g : qa_G} {d : Nat} {rz : Option Value} {hz : qa_M} (x1 : Int32) (x2 : Int32) (x3 : Int32) (x4 : Int32) (h : qa_M) {z : ((Int32 × Int32 × Int32 × Int32 × qa_M) ⊕ (Int32 × qa_M))} (E : f_X12_mayStand_b19 x1 x2 x3 x4 h = some z) (G : (Sum.elim (fun (sz : Int32 × Int32 × Int32 × Int32 × qa_M) => qt_At l g (yX12_mayStand, cX12_mayStand, 5, (some .boolean)) (d + 2) 0 0 19 [(0, .ref (g.1 + 119)), (1, .int sz.1), (2, .int sz.2.1), (3, .int sz.2.2.1), (4, .int sz.2.2.2.1)] [] sz.2.2.2.2 rz hz) (qg_i rz hz)) z) : qt_At l g (yX12_mayStand, cX12_mayStand, 5, (some .boolean)) (d + 2) 0 0 19 [(0, .ref (g.1 + 119)), (1, .int x1), (2, .int x2), (3, .int x3), (4, .int x4)] [] h rz hz := by
  unfold f_X12_mayStand_b19 at E
  refine qt_iload 4 dX12_mayStand_19 rfl ?_
  refine qt_iload_n 1 dX12_mayStand_21 rfl rfl ?_
  refine qt_icmp_ge 66 dX12_mayStand_22 (by decide) E (fun E => ?_) (fun E => ?_)
  · refine qt_iload_n 3 dX12_mayStand_66 rfl rfl ?_
    obtain ⟨z67, E⟩ := qpr_el E
    obtain ⟨z0_, E, G⟩ := qup_g E G
    exact qt_zreturn rfl z67 (Nat.le_of_ble_eq_true rfl) dX12_mayStand_67 E G
  · refine qt_iload_n 3 dX12_mayStand_25 rfl rfl ?_
    refine qt_if_eq 66 dX12_mayStand_26 (by decide) E (fun E => ?_) (fun E => ?_)
    · refine qt_iload_n 3 dX12_mayStand_66 rfl rfl ?_
      obtain ⟨z67, E⟩ := qpr_el E
      obtain ⟨z0_, E, G⟩ := qup_g E G
      exact qt_zreturn rfl z67 (Nat.le_of_ble_eq_true rfl) dX12_mayStand_67 E G
    · refine qt_aload_n 0 dX12_mayStand_29 rfl rfl ?_
      refine qt_getS 151 (wl_119 h) fe_RX12_109 rfl dX12_mayStand_30 ?_
      refine qt_iload 4 dX12_mayStand_33 rfl ?_
      refine qt_iald (wl_151 h) dX12_mayStand_35 E (fun E => ?_)
      refine qt_iload_n 2 dX12_mayStand_36 rfl rfl ?_
      obtain ⟨c37, h37, e37, E⟩ := qbn_el E
      refine qt_callSi (b2 := 0) [.int (h.1 151 x4.toNatClampNeg), .int x2] (c_X12_apartOf (h.1 151 x4.toNatClampNeg) x2 h e37) cv_RX12_176 rfl (Nat.le_of_ble_eq_true rfl) (Nat.le_of_ble_eq_true rfl) dX12_mayStand_37 ?_
      refine qt_aload_n 0 dX12_mayStand_40 rfl rfl ?_
      refine qt_getS 153 (wl_119 h37) fe_RX12_115 rfl dX12_mayStand_41 ?_
      refine qt_iconst dX12_mayStand_44 ci_4 ?_
      refine qt_iload_n 1 dX12_mayStand_45 rfl rfl ?_
      refine qt_imul dX12_mayStand_46 ?_
      refine qt_iload 4 dX12_mayStand_47 rfl ?_
      refine qt_iadd dX12_mayStand_49 ?_
      refine qt_iald (wl_153 h37) dX12_mayStand_50 E (fun E => ?_)
      refine qt_icmp_lt 58 dX12_mayStand_51 (by decide) E (fun E => ?_) (fun E => ?_)
      · refine qt_iconst dX12_mayStand_58 ci_0 ?_
        exact qt_sub _ [0, 1, 2, 4] rfl ((s_X12_mayStand_b59 x1 x2 x4 (0 : Int32) h37 E G))
      · refine qt_iconst dX12_mayStand_54 ci_1 ?_
        refine qt_goto 59 dX12_mayStand_55 (by decide) ?_
        exact qt_sub _ [0, 1, 2, 4] rfl ((s_X12_mayStand_b59 x1 x2 x4 (1 : Int32) h37 E G))
noncomputable def f_X12_mayStand_b19_loop (x1 : Int32) (x2 : Int32) (x3 : Int32) (x4 : Int32) (h : qa_M) : Option (Int32 × qa_M) := qlp (fun sz : Int32 × Int32 × Int32 × Int32 × qa_M => f_X12_mayStand_b19 sz.1 sz.2.1 sz.2.2.1 sz.2.2.2.1 sz.2.2.2.2) (x1, x2, x3, x4, h)
theorem s_X12_mayStand_b19_loop {l : Launch} {g : qa_G} {d : Nat} {rz : Option Value} {hz : qa_M} (x1 : Int32) (x2 : Int32) (x3 : Int32) (x4 : Int32) (h : qa_M) {z : (Int32 × qa_M)} (E : f_X12_mayStand_b19_loop x1 x2 x3 x4 h = some z) (G : (qg_i rz hz) z) : qt_At l g (yX12_mayStand, cX12_mayStand, 5, (some .boolean)) (d + 2) 0 0 19 [(0, .ref (g.1 + 119)), (1, .int x1), (2, .int x2), (3, .int x3), (4, .int x4)] [] h rz hz :=
  qlp_ind (fun sz : Int32 × Int32 × Int32 × Int32 × qa_M => qt_At l g (yX12_mayStand, cX12_mayStand, 5, (some .boolean)) (d + 2) 0 0 19 [(0, .ref (g.1 + 119)), (1, .int sz.1), (2, .int sz.2.1), (3, .int sz.2.2.1), (4, .int sz.2.2.2.1)] [] sz.2.2.2.2 rz hz) (fun sz E => s_X12_mayStand_b19 sz.1 sz.2.1 sz.2.2.1 sz.2.2.2.1 sz.2.2.2.2 E G) (fun sz sz2 E ih => s_X12_mayStand_b19 sz.1 sz.2.1 sz.2.2.1 sz.2.2.2.1 sz.2.2.2.2 E ih) (x1, x2, x3, x4, h) E
noncomputable def m_X12_mayStand (x1 : Int32) (x2 : Int32) (h : qa_M) : Option (Int32 × qa_M) :=
  qck x1 4 (
  qck (h.1 152 x1.toNatClampNeg) 4 (
  qbn (m_X12_has (h.2.1 154 (h.1 152 x1.toNatClampNeg).toNatClampNeg) x2 h) (fun (c12 : Int32) (h12 : qa_M) =>
  qbd c12 (fun v15 : Int32 =>
  qbd (0 : Int32) (fun v17 : Int32 =>
  f_X12_mayStand_b19_loop x1 x2 v15 v17 h12)))))
set_option maxRecDepth 20000 in
theorem c_X12_mayStand {l : Launch} {g : qa_G} {d : Nat} (x1 : Int32) (x2 : Int32) (h : qa_M) {c : Int32} {h1 : qa_M} (E : m_X12_mayStand x1 x2 h = some (c, h1)) : qt_Met l g (yX12_mayStand, cX12_mayStand, 5, (some .boolean)) (d + 2) 0 [.ref (g.1 + 119), .int x1, .int x2] h (some (.int c)) h1 := by
  refine qt_Met.of (plainFor_of_name (by decide)) (Nat.le_of_ble_eq_true rfl) ?_
  have G : qg_i (some (.int c)) h1 ((c, h1)) := ⟨rfl, rfl⟩
  unfold m_X12_mayStand at E
  refine qt_aload_n 0 dX12_mayStand_0 rfl rfl ?_
  refine qt_getS 154 (wl_119 h) fe_RX12_118 rfl dX12_mayStand_1 ?_
  refine qt_aload_n 0 dX12_mayStand_4 rfl rfl ?_
  refine qt_getS 152 (wl_119 h) fe_RX12_112 rfl dX12_mayStand_5 ?_
  refine qt_iload_n 1 dX12_mayStand_8 rfl rfl ?_
  refine qt_iald (wl_152 h) dX12_mayStand_9 E (fun E => ?_)
  refine qt_lald (wl_154 h) dX12_mayStand_10 E (fun E => ?_)
  refine qt_iload_n 2 dX12_mayStand_11 rfl rfl ?_
  obtain ⟨c12, h12, e12, E⟩ := qbn_el E
  refine qt_callSi (b2 := 0) [.long (h.2.1 154 (h.1 152 x1.toNatClampNeg).toNatClampNeg), .int x2] (c_X12_has (h.2.1 154 (h.1 152 x1.toNatClampNeg).toNatClampNeg) x2 h e12) cv_RX12_211 rfl (Nat.le_of_ble_eq_true rfl) (Nat.le_of_ble_eq_true rfl) dX12_mayStand_12 ?_
  refine qt_istore_n (fun v15 => [(3, .int v15), (0, .ref (g.1 + 119)), (1, .int x1), (2, .int x2)]) dX12_mayStand_15 rfl (Nat.le_of_ble_eq_true rfl) (fun _ => rfl) E (fun v15 E => ?_)
  refine qt_iconst dX12_mayStand_16 ci_0 ?_
  refine qt_istore (fun v17 => [(4, .int v17), (3, .int v15), (0, .ref (g.1 + 119)), (1, .int x1), (2, .int x2)]) dX12_mayStand_17 (Nat.le_of_ble_eq_true rfl) (fun _ => rfl) E (fun v17 E => ?_)
  exact qt_sub _ [2, 3, 4, 1, 0] rfl ((s_X12_mayStand_b19_loop x1 x2 v15 v17 h12 E G))
