noncomputable def f_X1_sortNotes_b104 (x2 : Int32) (h : qa_M) : Option ((Int32 × qa_M) ⊕ qa_M) :=
  qbd (x2 + (1 : Int32)) (fun v104 : Int32 =>
  some (.inl (v104, h)))
set_option maxRecDepth 20000 in
theorem s_X1_sortNotes_b104 {l : Launch} {g : qa_G} {d : Nat} {rz : Option Value} {hz : qa_M} (x2 : Int32) (h : qa_M) {z : ((Int32 × qa_M) ⊕ qa_M)} (E : f_X1_sortNotes_b104 x2 h = some z) (G : (Sum.elim (fun (sz : Int32 × qa_M) => qt_At l g (yX1_sortNotes, cX1_sortNotes, 7, none) (d + 2) 0 0 18 [(0, .ref (g.1 + 34)), (1, .ref (g.1 + 3)), (2, .int sz.1)] [] sz.2 rz hz) (qg_v rz hz)) z) : qt_At l g (yX1_sortNotes, cX1_sortNotes, 7, none) (d + 2) 0 0 104 [(0, .ref (g.1 + 34)), (1, .ref (g.1 + 3)), (2, .int x2)] [] h rz hz := by
  unfold f_X1_sortNotes_b104 at E
  refine qt_iinc 2 (fun v104 => [(2, .int v104), (0, .ref (g.1 + 34)), (1, .ref (g.1 + 3))]) dX1_sortNotes_104 rfl ci_1 (Nat.le_of_ble_eq_true rfl) (fun _ => rfl) E (fun v104 E => ?_)
  refine qt_goto 18 dX1_sortNotes_107 (by decide) ?_
  cases E
  exact qt_sub _ [1, 2, 0] rfl (G)
noncomputable def f_X1_sortNotes_b62 (x2 : Int32) (x4 : Int64) (x6 : Int32) (h : qa_M) : Option ((Int32 × Int64 × Int32 × qa_M) ⊕ ((Int32 × qa_M) ⊕ qa_M)) :=
  if (36 : Int32) ≤ x6 then (
   qup (f_X1_sortNotes_b104 x2 h))
  else (
   qbn (m_X8_sort x2 h) (fun (c75 : Int32) (h75 : qa_M) =>
   qck ((c75 * (36 : Int32)) + x6) 144 (
   qck ((c75 * (36 : Int32)) + x6) 144 (
   qbd (qw_I h75 36 ((c75 * (36 : Int32)) + x6).toNatClampNeg ((h75.1 36 ((c75 * (36 : Int32)) + x6).toNatClampNeg) ||| ((((q_lushr x4 x6) &&& (1 : Int64)).toInt32) <<< (x2 &&& 31)))) (fun h97 : qa_M =>
   qbd (x6 + (1 : Int32)) (fun v98 : Int32 =>
   some (.inl (x2, x4, v98, h97))))))))
set_option maxRecDepth 20000 in
theorem s_X1_sortNotes_b62 {l : Launch} {g : qa_G} {d : Nat} {rz : Option Value} {hz : qa_M} (x2 : Int32) (x4 : Int64) (x6 : Int32) (h : qa_M) {z : ((Int32 × Int64 × Int32 × qa_M) ⊕ ((Int32 × qa_M) ⊕ qa_M))} (E : f_X1_sortNotes_b62 x2 x4 x6 h = some z) (G : (Sum.elim (fun (sz : Int32 × Int64 × Int32 × qa_M) => qt_At l g (yX1_sortNotes, cX1_sortNotes, 7, none) (d + 2) 0 0 62 [(0, .ref (g.1 + 34)), (1, .ref (g.1 + 3)), (2, .int sz.1), (4, .long sz.2.1), (6, .int sz.2.2.1)] [] sz.2.2.2 rz hz) (Sum.elim (fun (sz : Int32 × qa_M) => qt_At l g (yX1_sortNotes, cX1_sortNotes, 7, none) (d + 2) 0 0 18 [(0, .ref (g.1 + 34)), (1, .ref (g.1 + 3)), (2, .int sz.1)] [] sz.2 rz hz) (qg_v rz hz))) z) : qt_At l g (yX1_sortNotes, cX1_sortNotes, 7, none) (d + 2) 0 0 62 [(0, .ref (g.1 + 34)), (1, .ref (g.1 + 3)), (2, .int x2), (4, .long x4), (6, .int x6)] [] h rz hz := by
  unfold f_X1_sortNotes_b62 at E
  refine qt_iload 4 dX1_sortNotes_62 rfl ?_
  refine qt_bipush dX1_sortNotes_64 cb_36 ?_
  refine qt_icmp_ge 104 dX1_sortNotes_66 (by decide) E (fun E => ?_) (fun E => ?_)
  · obtain ⟨z0_, E, G⟩ := qup_g E G
    exact qt_sub _ [0, 1, 2] rfl ((s_X1_sortNotes_b104 x2 h E G))
  · refine qt_aload_n 0 dX1_sortNotes_69 rfl rfl ?_
    refine qt_getS 36 (wl_34 h) fe_RX1_15 rfl dX1_sortNotes_70 ?_
    refine qt_aload_n 1 dX1_sortNotes_73 rfl rfl ?_
    refine qt_iload_n 2 dX1_sortNotes_74 rfl rfl ?_
    obtain ⟨c75, h75, e75, E⟩ := qbn_el E
    refine qt_callVi (b2 := 0) [.int x2] (c_X8_sort x2 h e75) cv_RX1_80 (wl_3 h) rfl rfl rfl (Nat.le_of_ble_eq_true rfl) (Nat.le_of_ble_eq_true rfl) dX1_sortNotes_75 ?_
    refine qt_bipush dX1_sortNotes_78 cb_36 ?_
    refine qt_imul dX1_sortNotes_80 ?_
    refine qt_iload 4 dX1_sortNotes_81 rfl ?_
    refine qt_iadd dX1_sortNotes_83 ?_
    refine qt_dup2_11 dX1_sortNotes_84 rfl rfl ?_
    refine qt_iald (wl_36 h75) dX1_sortNotes_85 E (fun E => ?_)
    refine qt_lload 3 dX1_sortNotes_86 rfl ?_
    refine qt_iload 4 dX1_sortNotes_88 rfl ?_
    refine qt_lushr dX1_sortNotes_90 ?_
    refine qt_lconst dX1_sortNotes_91 cl_1 ?_
    refine qt_land dX1_sortNotes_92 ?_
    refine qt_l2i dX1_sortNotes_93 ?_
    refine qt_iload_n 2 dX1_sortNotes_94 rfl rfl ?_
    refine qt_ishl dX1_sortNotes_95 ?_
    refine qt_ior dX1_sortNotes_96 ?_
    refine qt_iast (wl_36 h75) dX1_sortNotes_97 E (fun h97 E => ?_)
    refine qt_iinc 4 (fun v98 => [(6, .int v98), (0, .ref (g.1 + 34)), (1, .ref (g.1 + 3)), (2, .int x2), (4, .long x4)]) dX1_sortNotes_98 rfl ci_1 (Nat.le_of_ble_eq_true rfl) (fun _ => rfl) E (fun v98 E => ?_)
    refine qt_goto 62 dX1_sortNotes_101 (by decide) ?_
    cases E
    exact qt_sub _ [1, 2, 3, 4, 0] rfl (G)
noncomputable def f_X1_sortNotes_b62_loop (x2 : Int32) (x4 : Int64) (x6 : Int32) (h : qa_M) : Option ((Int32 × qa_M) ⊕ qa_M) := qlp (fun sz : Int32 × Int64 × Int32 × qa_M => f_X1_sortNotes_b62 sz.1 sz.2.1 sz.2.2.1 sz.2.2.2) (x2, x4, x6, h)
theorem s_X1_sortNotes_b62_loop {l : Launch} {g : qa_G} {d : Nat} {rz : Option Value} {hz : qa_M} (x2 : Int32) (x4 : Int64) (x6 : Int32) (h : qa_M) {z : ((Int32 × qa_M) ⊕ qa_M)} (E : f_X1_sortNotes_b62_loop x2 x4 x6 h = some z) (G : (Sum.elim (fun (sz : Int32 × qa_M) => qt_At l g (yX1_sortNotes, cX1_sortNotes, 7, none) (d + 2) 0 0 18 [(0, .ref (g.1 + 34)), (1, .ref (g.1 + 3)), (2, .int sz.1)] [] sz.2 rz hz) (qg_v rz hz)) z) : qt_At l g (yX1_sortNotes, cX1_sortNotes, 7, none) (d + 2) 0 0 62 [(0, .ref (g.1 + 34)), (1, .ref (g.1 + 3)), (2, .int x2), (4, .long x4), (6, .int x6)] [] h rz hz :=
  qlp_ind (fun sz : Int32 × Int64 × Int32 × qa_M => qt_At l g (yX1_sortNotes, cX1_sortNotes, 7, none) (d + 2) 0 0 62 [(0, .ref (g.1 + 34)), (1, .ref (g.1 + 3)), (2, .int sz.1), (4, .long sz.2.1), (6, .int sz.2.2.1)] [] sz.2.2.2 rz hz) (fun sz E => s_X1_sortNotes_b62 sz.1 sz.2.1 sz.2.2.1 sz.2.2.2 E G) (fun sz sz2 E ih => s_X1_sortNotes_b62 sz.1 sz.2.1 sz.2.2.1 sz.2.2.2 E ih) (x2, x4, x6, h) E
noncomputable def f_X1_sortNotes_b45 (x2 : Int32) (s1 : Int32) (h : qa_M) : Option ((Int32 × qa_M) ⊕ qa_M) :=
  qck s1 5 (
  qck s1 5 (
  qbd (qw_I h 37 s1.toNatClampNeg ((h.1 37 s1.toNatClampNeg) ||| ((1 : Int32) <<< (x2 &&& 31)))) (fun h51 : qa_M =>
  qbn (m_X8_region x2 h51) (fun (c54 : Int64) (h54 : qa_M) =>
  qbd c54 (fun v57 : Int64 =>
  qbd (0 : Int32) (fun v60 : Int32 =>
  f_X1_sortNotes_b62_loop x2 v57 v60 h54))))))
set_option maxRecDepth 20000 in
theorem s_X1_sortNotes_b45 {l : Launch} {g : qa_G} {d : Nat} {rz : Option Value} {hz : qa_M} (x2 : Int32) (s1 : Int32) (h : qa_M) {z : ((Int32 × qa_M) ⊕ qa_M)} (E : f_X1_sortNotes_b45 x2 s1 h = some z) (G : (Sum.elim (fun (sz : Int32 × qa_M) => qt_At l g (yX1_sortNotes, cX1_sortNotes, 7, none) (d + 2) 0 0 18 [(0, .ref (g.1 + 34)), (1, .ref (g.1 + 3)), (2, .int sz.1)] [] sz.2 rz hz) (qg_v rz hz)) z) : qt_At l g (yX1_sortNotes, cX1_sortNotes, 7, none) (d + 2) 0 0 45 [(0, .ref (g.1 + 34)), (1, .ref (g.1 + 3)), (2, .int x2)] [.int s1, .ref (g.1 + 37)] h rz hz := by
  unfold f_X1_sortNotes_b45 at E
  refine qt_dup2_11 dX1_sortNotes_45 rfl rfl ?_
  refine qt_iald (wl_37 h) dX1_sortNotes_46 E (fun E => ?_)
  refine qt_iconst dX1_sortNotes_47 ci_1 ?_
  refine qt_iload_n 2 dX1_sortNotes_48 rfl rfl ?_
  refine qt_ishl dX1_sortNotes_49 ?_
  refine qt_ior dX1_sortNotes_50 ?_
  refine qt_iast (wl_37 h) dX1_sortNotes_51 E (fun h51 E => ?_)
  refine qt_aload_n 1 dX1_sortNotes_52 rfl rfl ?_
  refine qt_iload_n 2 dX1_sortNotes_53 rfl rfl ?_
  obtain ⟨c54, h54, e54, E⟩ := qbn_el E
  refine qt_callVl (b2 := 0) [.int x2] (c_X8_region x2 h51 e54) cv_RX1_76 (wl_3 h51) rfl rfl rfl (Nat.le_of_ble_eq_true rfl) (Nat.le_of_ble_eq_true rfl) dX1_sortNotes_54 ?_
  refine qt_lstore (fun v57 => [(4, .long v57), (0, .ref (g.1 + 34)), (1, .ref (g.1 + 3)), (2, .int x2)]) dX1_sortNotes_57 (Nat.le_of_ble_eq_true rfl) (fun _ => rfl) E (fun v57 E => ?_)
  refine qt_iconst dX1_sortNotes_59 ci_0 ?_
  refine qt_istore (fun v60 => [(6, .int v60), (4, .long v57), (0, .ref (g.1 + 34)), (1, .ref (g.1 + 3)), (2, .int x2)]) dX1_sortNotes_60 (Nat.le_of_ble_eq_true rfl) (fun _ => rfl) E (fun v60 E => ?_)
  exact qt_sub _ [2, 3, 4, 1, 0] rfl ((s_X1_sortNotes_b62_loop x2 v57 v60 h54 E G))
noncomputable def f_X1_sortNotes_b18 (x2 : Int32) (h : qa_M) : Option ((Int32 × qa_M) ⊕ qa_M) :=
  if (h.1 3 1) ≤ x2 then (
   qup (some h))
  else (
   qbn (m_X8_sure x2 h) (fun (c28 : Int32) (h28 : qa_M) =>
   qbd c28 (fun v31 : Int32 =>
   if 0 ≤ v31 then (
    f_X1_sortNotes_b45 x2 v31 h28)
   else (
    f_X1_sortNotes_b45 x2 (4 : Int32) h28))))
set_option maxRecDepth 20000 in
theorem s_X1_sortNotes_b18 {l : Launch} {g : qa_G} {d : Nat} {rz : Option Value} {hz : qa_M} (x2 : Int32) (h : qa_M) {z : ((Int32 × qa_M) ⊕ qa_M)} (E : f_X1_sortNotes_b18 x2 h = some z) (G : (Sum.elim (fun (sz : Int32 × qa_M) => qt_At l g (yX1_sortNotes, cX1_sortNotes, 7, none) (d + 2) 0 0 18 [(0, .ref (g.1 + 34)), (1, .ref (g.1 + 3)), (2, .int sz.1)] [] sz.2 rz hz) (qg_v rz hz)) z) : qt_At l g (yX1_sortNotes, cX1_sortNotes, 7, none) (d + 2) 0 0 18 [(0, .ref (g.1 + 34)), (1, .ref (g.1 + 3)), (2, .int x2)] [] h rz hz := by
  unfold f_X1_sortNotes_b18 at E
  refine qt_iload_n 2 dX1_sortNotes_18 rfl rfl ?_
  refine qt_aload_n 1 dX1_sortNotes_19 rfl rfl ?_
  refine qt_getI (wl_3 h) fe_RX1_67 rfl dX1_sortNotes_20 ?_
  refine qt_icmp_ge 110 dX1_sortNotes_23 (by decide) E (fun E => ?_) (fun E => ?_)
  · obtain ⟨z0_, E, G⟩ := qup_g E G
    exact qt_vreturn rfl (Nat.le_of_ble_eq_true rfl) dX1_sortNotes_110 E G
  · refine qt_aload_n 1 dX1_sortNotes_26 rfl rfl ?_
    refine qt_iload_n 2 dX1_sortNotes_27 rfl rfl ?_
    obtain ⟨c28, h28, e28, E⟩ := qbn_el E
    refine qt_callVi (b2 := 0) [.int x2] (c_X8_sure x2 h e28) cv_RX1_72 (wl_3 h) rfl rfl rfl (Nat.le_of_ble_eq_true rfl) (Nat.le_of_ble_eq_true rfl) dX1_sortNotes_28 ?_
    refine qt_istore_n (fun v31 => [(3, .int v31), (0, .ref (g.1 + 34)), (1, .ref (g.1 + 3)), (2, .int x2)]) dX1_sortNotes_31 rfl (Nat.le_of_ble_eq_true rfl) (fun _ => rfl) E (fun v31 E => ?_)
    refine qt_aload_n 1 dX1_sortNotes_32 rfl rfl ?_
    refine qt_getS 37 (wl_34 h28) fe_RX1_18 rfl dX1_sortNotes_33 ?_
    refine qt_iload_n 0 dX1_sortNotes_36 rfl rfl ?_
    refine qt_if_ge 44 dX1_sortNotes_37 (by decide) E (fun E => ?_) (fun E => ?_)
    · refine qt_iload_n 0 dX1_sortNotes_44 rfl rfl ?_
      exact qt_sub _ [1, 2, 3] rfl ((s_X1_sortNotes_b45 x2 v31 h28 E G))
    · refine qt_iconst dX1_sortNotes_40 ci_4 ?_
      refine qt_goto 45 dX1_sortNotes_41 (by decide) ?_
      exact qt_sub _ [1, 2, 3] rfl ((s_X1_sortNotes_b45 x2 (4 : Int32) h28 E G))
noncomputable def f_X1_sortNotes_b18_loop (x2 : Int32) (h : qa_M) : Option qa_M := qlp (fun sz : Int32 × qa_M => f_X1_sortNotes_b18 sz.1 sz.2) (x2, h)
theorem s_X1_sortNotes_b18_loop {l : Launch} {g : qa_G} {d : Nat} {rz : Option Value} {hz : qa_M} (x2 : Int32) (h : qa_M) {z : qa_M} (E : f_X1_sortNotes_b18_loop x2 h = some z) (G : (qg_v rz hz) z) : qt_At l g (yX1_sortNotes, cX1_sortNotes, 7, none) (d + 2) 0 0 18 [(0, .ref (g.1 + 34)), (1, .ref (g.1 + 3)), (2, .int x2)] [] h rz hz :=
  qlp_ind (fun sz : Int32 × qa_M => qt_At l g (yX1_sortNotes, cX1_sortNotes, 7, none) (d + 2) 0 0 18 [(0, .ref (g.1 + 34)), (1, .ref (g.1 + 3)), (2, .int sz.1)] [] sz.2 rz hz) (fun sz E => s_X1_sortNotes_b18 sz.1 sz.2 E G) (fun sz sz2 E ih => s_X1_sortNotes_b18 sz.1 sz.2 E ih) (x2, h) E
noncomputable def m_X1_sortNotes (h : qa_M) : Option qa_M :=
  qbv (m_J7_fill_53178 37 (0 : Int32) h) (fun h5 : qa_M =>
  qbv (m_J7_fill_53178 36 (0 : Int32) h5) (fun h13 : qa_M =>
  qbd (0 : Int32) (fun v17 : Int32 =>
  f_X1_sortNotes_b18_loop v17 h13)))
set_option maxRecDepth 20000 in
theorem c_X1_sortNotes {l : Launch} {g : qa_G} {d : Nat} (h : qa_M) {h1 : qa_M} (E : m_X1_sortNotes h = some h1) : qt_Met l g (yX1_sortNotes, cX1_sortNotes, 7, none) (d + 2) 0 [.ref (g.1 + 34), .ref (g.1 + 3)] h none h1 := by
  refine qt_Met.of (plainFor_of_name (by decide)) (Nat.le_of_ble_eq_true rfl) ?_
  have G : qg_v none h1 (h1) := ⟨rfl, rfl⟩
  unfold m_X1_sortNotes at E
  refine qt_aload_n 0 dX1_sortNotes_0 rfl rfl ?_
  refine qt_getS 37 (wl_34 h) fe_RX1_18 rfl dX1_sortNotes_1 ?_
  refine qt_iconst dX1_sortNotes_4 ci_0 ?_
  obtain ⟨h5, e5, E⟩ := qbv_el E
  refine qt_callSv (b2 := 0) [.ref (g.1 + 37), .int (0 : Int32)] (c_J7_fill_53178 37 (0 : Int32) h e5) cv_RX1_36 rfl (Nat.le_of_ble_eq_true rfl) (Nat.le_of_ble_eq_true rfl) dX1_sortNotes_5 ?_
  refine qt_aload_n 0 dX1_sortNotes_8 rfl rfl ?_
  refine qt_getS 36 (wl_34 h5) fe_RX1_15 rfl dX1_sortNotes_9 ?_
  refine qt_iconst dX1_sortNotes_12 ci_0 ?_
  obtain ⟨h13, e13, E⟩ := qbv_el E
  refine qt_callSv (b2 := 0) [.ref (g.1 + 36), .int (0 : Int32)] (c_J7_fill_53178 36 (0 : Int32) h5 e13) cv_RX1_36 rfl (Nat.le_of_ble_eq_true rfl) (Nat.le_of_ble_eq_true rfl) dX1_sortNotes_13 ?_
  refine qt_iconst dX1_sortNotes_16 ci_0 ?_
  refine qt_istore_n (fun v17 => [(2, .int v17), (0, .ref (g.1 + 34)), (1, .ref (g.1 + 3))]) dX1_sortNotes_17 rfl (Nat.le_of_ble_eq_true rfl) (fun _ => rfl) E (fun v17 E => ?_)
  exact qt_sub _ [1, 2, 0] rfl ((s_X1_sortNotes_b18_loop v17 h13 E G))
noncomputable def f_X1_groupSquares_b139 (x1 : Int32) (x2 : Int32) (h : qa_M) : Option ((Int32 × Int32 × qa_M) ⊕ qa_M) :=
  qbd (x2 + (1 : Int32)) (fun v139 : Int32 =>
  some (.inl (x1, v139, h)))
set_option maxRecDepth 20000 in
theorem s_X1_groupSquares_b139 {l : Launch} {g : qa_G} {d : Nat} {rz : Option Value} {hz : qa_M} (x1 : Int32) (x2 : Int32) (h : qa_M) {z : ((Int32 × Int32 × qa_M) ⊕ qa_M)} (E : f_X1_groupSquares_b139 x1 x2 h = some z) (G : (Sum.elim (fun (sz : Int32 × Int32 × qa_M) => qt_At l g (yX1_groupSquares, cX1_groupSquares, 5, none) d 0 0 23 [(0, .ref (g.1 + 34)), (1, .int sz.1), (2, .int sz.2.1)] [] sz.2.2 rz hz) (qg_v rz hz)) z) : qt_At l g (yX1_groupSquares, cX1_groupSquares, 5, none) d 0 0 139 [(0, .ref (g.1 + 34)), (1, .int x1), (2, .int x2)] [] h rz hz := by
  unfold f_X1_groupSquares_b139 at E
  refine qt_iinc 2 (fun v139 => [(2, .int v139), (0, .ref (g.1 + 34)), (1, .int x1)]) dX1_groupSquares_139 rfl ci_1 (Nat.le_of_ble_eq_true rfl) (fun _ => rfl) E (fun v139 E => ?_)
  refine qt_goto 23 dX1_groupSquares_142 (by decide) ?_
  cases E
  exact qt_sub _ [1, 2, 0] rfl (G)
noncomputable def f_X1_groupSquares_b105 (x1 : Int32) (x2 : Int32) (x4 : Int32) (h : qa_M) : Option ((Int32 × Int32 × qa_M) ⊕ qa_M) :=
  if x4 ≤ 0 then (
   f_X1_groupSquares_b139 x1 x2 h)
  else (
   qck x4 37 (
   qck x4 37 (
   qbd (qw_J h 38 x4.toNatClampNeg ((h.2.1 38 x4.toNatClampNeg) ||| (q_lshl (1 : Int64) x2))) (fun h122 : qa_M =>
   qck (0 : Int32) 37 (
   qck (0 : Int32) 37 (
   qbd (qw_J h122 38 (0 : Int32).toNatClampNeg ((h122.2.1 38 (0 : Int32).toNatClampNeg) &&& ((q_lshl (1 : Int64) x2) ^^^ (-1 : Int64)))) (fun h138 : qa_M =>
   f_X1_groupSquares_b139 x1 x2 h138)))))))
set_option maxRecDepth 20000 in
theorem s_X1_groupSquares_b105 {l : Launch} {g : qa_G} {d : Nat} {rz : Option Value} {hz : qa_M} (x1 : Int32) (x2 : Int32) (x4 : Int32) (h : qa_M) {z : ((Int32 × Int32 × qa_M) ⊕ qa_M)} (E : f_X1_groupSquares_b105 x1 x2 x4 h = some z) (G : (Sum.elim (fun (sz : Int32 × Int32 × qa_M) => qt_At l g (yX1_groupSquares, cX1_groupSquares, 5, none) d 0 0 23 [(0, .ref (g.1 + 34)), (1, .int sz.1), (2, .int sz.2.1)] [] sz.2.2 rz hz) (qg_v rz hz)) z) : qt_At l g (yX1_groupSquares, cX1_groupSquares, 5, none) d 0 0 105 [(0, .ref (g.1 + 34)), (1, .int x1), (2, .int x2), (4, .int x4)] [] h rz hz := by
  unfold f_X1_groupSquares_b105 at E
  refine qt_iload 3 dX1_groupSquares_105 rfl ?_
  refine qt_if_le 139 dX1_groupSquares_107 (by decide) E (fun E => ?_) (fun E => ?_)
  · exact qt_sub _ [0, 1, 2] rfl ((s_X1_groupSquares_b139 x1 x2 h E G))
  · refine qt_aload_n 0 dX1_groupSquares_110 rfl rfl ?_
    refine qt_getS 38 (wl_34 h) fe_RX1_21 rfl dX1_groupSquares_111 ?_
    refine qt_iload 3 dX1_groupSquares_114 rfl ?_
    refine qt_dup2_11 dX1_groupSquares_116 rfl rfl ?_
    refine qt_lald (wl_38 h) dX1_groupSquares_117 E (fun E => ?_)
    refine qt_lconst dX1_groupSquares_118 cl_1 ?_
    refine qt_iload_n 2 dX1_groupSquares_119 rfl rfl ?_
    refine qt_lshl dX1_groupSquares_120 ?_
    refine qt_lor dX1_groupSquares_121 ?_
    refine qt_last (wl_38 h) dX1_groupSquares_122 E (fun h122 E => ?_)
    refine qt_aload_n 0 dX1_groupSquares_123 rfl rfl ?_
    refine qt_getS 38 (wl_34 h122) fe_RX1_21 rfl dX1_groupSquares_124 ?_
    refine qt_iconst dX1_groupSquares_127 ci_0 ?_
    refine qt_dup2_11 dX1_groupSquares_128 rfl rfl ?_
    refine qt_lald (wl_38 h122) dX1_groupSquares_129 E (fun E => ?_)
    refine qt_lconst dX1_groupSquares_130 cl_1 ?_
    refine qt_iload_n 2 dX1_groupSquares_131 rfl rfl ?_
    refine qt_lshl dX1_groupSquares_132 ?_
    refine qt_ldc2 tb_1108 dX1_groupSquares_133 ?_
    refine qt_lxor dX1_groupSquares_136 ?_
    refine qt_land dX1_groupSquares_137 ?_
    refine qt_last (wl_38 h122) dX1_groupSquares_138 E (fun h138 E => ?_)
    exact qt_sub _ [0, 1, 2] rfl ((s_X1_groupSquares_b139 x1 x2 h138 E G))
noncomputable def f_X1_groupSquares_b70 (x1 : Int32) (x2 : Int32) (x3 : Int32) (x4 : Int32) (h : qa_M) : Option ((Int32 × Int32 × qa_M) ⊕ qa_M) :=
  if x4 = (h.1 34 4) then (
   qck x4 37 (
   qbd (qw_I h 39 x4.toNatClampNeg x3) (fun h86 : qa_M =>
   qck x4 37 (
   qbd (qw_J h86 38 x4.toNatClampNeg (0 : Int64)) (fun h94 : qa_M =>
   qbd (qw_I h94 34 4 ((h94.1 34 4) + (1 : Int32))) (fun h102 : qa_M =>
   f_X1_groupSquares_b105 x1 x2 x4 h102))))))
  else (
   f_X1_groupSquares_b105 x1 x2 x4 h)
set_option maxRecDepth 20000 in
theorem s_X1_groupSquares_b70 {l : Launch} {g : qa_G} {d : Nat} {rz : Option Value} {hz : qa_M} (x1 : Int32) (x2 : Int32) (x3 : Int32) (x4 : Int32) (h : qa_M) {z : ((Int32 × Int32 × qa_M) ⊕ qa_M)} (E : f_X1_groupSquares_b70 x1 x2 x3 x4 h = some z) (G : (Sum.elim (fun (sz : Int32 × Int32 × qa_M) => qt_At l g (yX1_groupSquares, cX1_groupSquares, 5, none) d 0 0 23 [(0, .ref (g.1 + 34)), (1, .int sz.1), (2, .int sz.2.1)] [] sz.2.2 rz hz) (qg_v rz hz)) z) : qt_At l g (yX1_groupSquares, cX1_groupSquares, 5, none) d 0 0 70 [(0, .ref (g.1 + 34)), (1, .int x1), (2, .int x2), (3, .int x3), (4, .int x4)] [] h rz hz := by
  unfold f_X1_groupSquares_b70 at E
  refine qt_iload 4 dX1_groupSquares_70 rfl ?_
  refine qt_aload_n 0 dX1_groupSquares_72 rfl rfl ?_
  refine qt_getI (wl_34 h) fe_RX1_83 rfl dX1_groupSquares_73 ?_
  refine qt_icmp_ne 105 dX1_groupSquares_76 (by decide) E (fun E => ?_) (fun E => ?_)
  · exact qt_sub _ [0, 1, 2, 4] rfl ((s_X1_groupSquares_b105 x1 x2 x4 h E G))
  · refine qt_aload_n 0 dX1_groupSquares_79 rfl rfl ?_
    refine qt_getS 39 (wl_34 h) fe_RX1_25 rfl dX1_groupSquares_80 ?_
    refine qt_iload 4 dX1_groupSquares_83 rfl ?_
    refine qt_iload_n 3 dX1_groupSquares_85 rfl rfl ?_
    refine qt_iast (wl_39 h) dX1_groupSquares_86 E (fun h86 E => ?_)
    refine qt_aload_n 0 dX1_groupSquares_87 rfl rfl ?_
    refine qt_getS 38 (wl_34 h86) fe_RX1_21 rfl dX1_groupSquares_88 ?_
    refine qt_iload 4 dX1_groupSquares_91 rfl ?_
    refine qt_lconst dX1_groupSquares_93 cl_0 ?_
    refine qt_last (wl_38 h86) dX1_groupSquares_94 E (fun h94 E => ?_)
    refine qt_aload_n 0 dX1_groupSquares_95 rfl rfl ?_
    refine qt_dup dX1_groupSquares_96 rfl ?_
    refine qt_getI (wl_34 h94) fe_RX1_83 rfl dX1_groupSquares_97 ?_
    refine qt_iconst dX1_groupSquares_100 ci_1 ?_
    refine qt_iadd dX1_groupSquares_101 ?_
    refine qt_putI (wl_34 h94) fd_RX1_83 rfl rfl rfl dX1_groupSquares_102 E (fun h102 E => ?_)
    exact qt_sub _ [0, 1, 2, 4] rfl ((s_X1_groupSquares_b105 x1 x2 x4 h102 E G))
noncomputable def f_X1_groupSquares_b44 (x1 : Int32) (x2 : Int32) (x3 : Int32) (x4 : Int32) (h : qa_M) : Option ((Int32 × Int32 × Int32 × Int32 × qa_M) ⊕ ((Int32 × Int32 × qa_M) ⊕ qa_M)) :=
  if (h.1 34 4) ≤ x4 then (
   qup (f_X1_groupSquares_b70 x1 x2 x3 x4 h))
  else (
   qck x4 37 (
   if (h.1 39 x4.toNatClampNeg) = x3 then (
    qup (f_X1_groupSquares_b70 x1 x2 x3 x4 h))
   else (
    qbd (x4 + (1 : Int32)) (fun v64 : Int32 =>
    some (.inl (x1, x2, x3, v64, h))))))
set_option maxRecDepth 20000 in
theorem s_X1_groupSquares_b44 {l : Launch} {g : qa_G} {d : Nat} {rz : Option Value} {hz : qa_M} (x1 : Int32) (x2 : Int32) (x3 : Int32) (x4 : Int32) (h : qa_M) {z : ((Int32 × Int32 × Int32 × Int32 × qa_M) ⊕ ((Int32 × Int32 × qa_M) ⊕ qa_M))} (E : f_X1_groupSquares_b44 x1 x2 x3 x4 h = some z) (G : (Sum.elim (fun (sz : Int32 × Int32 × Int32 × Int32 × qa_M) => qt_At l g (yX1_groupSquares, cX1_groupSquares, 5, none) d 0 0 44 [(0, .ref (g.1 + 34)), (1, .int sz.1), (2, .int sz.2.1), (3, .int sz.2.2.1), (4, .int sz.2.2.2.1)] [] sz.2.2.2.2 rz hz) (Sum.elim (fun (sz : Int32 × Int32 × qa_M) => qt_At l g (yX1_groupSquares, cX1_groupSquares, 5, none) d 0 0 23 [(0, .ref (g.1 + 34)), (1, .int sz.1), (2, .int sz.2.1)] [] sz.2.2 rz hz) (qg_v rz hz))) z) : qt_At l g (yX1_groupSquares, cX1_groupSquares, 5, none) d 0 0 44 [(0, .ref (g.1 + 34)), (1, .int x1), (2, .int x2), (3, .int x3), (4, .int x4)] [] h rz hz := by
  unfold f_X1_groupSquares_b44 at E
  refine qt_iload 4 dX1_groupSquares_44 rfl ?_
  refine qt_aload_n 0 dX1_groupSquares_46 rfl rfl ?_
  refine qt_getI (wl_34 h) fe_RX1_83 rfl dX1_groupSquares_47 ?_
  refine qt_icmp_ge 70 dX1_groupSquares_50 (by decide) E (fun E => ?_) (fun E => ?_)
  · obtain ⟨z0_, E, G⟩ := qup_g E G
    exact qt_sub _ [0, 1, 2, 3, 4] rfl ((s_X1_groupSquares_b70 x1 x2 x3 x4 h E G))
  · refine qt_aload_n 0 dX1_groupSquares_53 rfl rfl ?_
    refine qt_getS 39 (wl_34 h) fe_RX1_25 rfl dX1_groupSquares_54 ?_
    refine qt_iload 4 dX1_groupSquares_57 rfl ?_
    refine qt_iald (wl_39 h) dX1_groupSquares_59 E (fun E => ?_)
    refine qt_iload_n 3 dX1_groupSquares_60 rfl rfl ?_
    refine qt_icmp_eq 70 dX1_groupSquares_61 (by decide) E (fun E => ?_) (fun E => ?_)
    · obtain ⟨z0_, E, G⟩ := qup_g E G
      exact qt_sub _ [0, 1, 2, 3, 4] rfl ((s_X1_groupSquares_b70 x1 x2 x3 x4 h E G))
    · refine qt_iinc 4 (fun v64 => [(4, .int v64), (0, .ref (g.1 + 34)), (1, .int x1), (2, .int x2), (3, .int x3)]) dX1_groupSquares_64 rfl ci_1 (Nat.le_of_ble_eq_true rfl) (fun _ => rfl) E (fun v64 E => ?_)
      refine qt_goto 44 dX1_groupSquares_67 (by decide) ?_
      cases E
      exact qt_sub _ [1, 2, 3, 4, 0] rfl (G)
noncomputable def f_X1_groupSquares_b44_loop (x1 : Int32) (x2 : Int32) (x3 : Int32) (x4 : Int32) (h : qa_M) : Option ((Int32 × Int32 × qa_M) ⊕ qa_M) := qlp (fun sz : Int32 × Int32 × Int32 × Int32 × qa_M => f_X1_groupSquares_b44 sz.1 sz.2.1 sz.2.2.1 sz.2.2.2.1 sz.2.2.2.2) (x1, x2, x3, x4, h)
theorem s_X1_groupSquares_b44_loop {l : Launch} {g : qa_G} {d : Nat} {rz : Option Value} {hz : qa_M} (x1 : Int32) (x2 : Int32) (x3 : Int32) (x4 : Int32) (h : qa_M) {z : ((Int32 × Int32 × qa_M) ⊕ qa_M)} (E : f_X1_groupSquares_b44_loop x1 x2 x3 x4 h = some z) (G : (Sum.elim (fun (sz : Int32 × Int32 × qa_M) => qt_At l g (yX1_groupSquares, cX1_groupSquares, 5, none) d 0 0 23 [(0, .ref (g.1 + 34)), (1, .int sz.1), (2, .int sz.2.1)] [] sz.2.2 rz hz) (qg_v rz hz)) z) : qt_At l g (yX1_groupSquares, cX1_groupSquares, 5, none) d 0 0 44 [(0, .ref (g.1 + 34)), (1, .int x1), (2, .int x2), (3, .int x3), (4, .int x4)] [] h rz hz :=
  qlp_ind (fun sz : Int32 × Int32 × Int32 × Int32 × qa_M => qt_At l g (yX1_groupSquares, cX1_groupSquares, 5, none) d 0 0 44 [(0, .ref (g.1 + 34)), (1, .int sz.1), (2, .int sz.2.1), (3, .int sz.2.2.1), (4, .int sz.2.2.2.1)] [] sz.2.2.2.2 rz hz) (fun sz E => s_X1_groupSquares_b44 sz.1 sz.2.1 sz.2.2.1 sz.2.2.2.1 sz.2.2.2.2 E G) (fun sz sz2 E ih => s_X1_groupSquares_b44 sz.1 sz.2.1 sz.2.2.1 sz.2.2.2.1 sz.2.2.2.2 E ih) (x1, x2, x3, x4, h) E
noncomputable def f_X1_groupSquares_b23 (x1 : Int32) (x2 : Int32) (h : qa_M) : Option ((Int32 × Int32 × qa_M) ⊕ qa_M) :=
  if (36 : Int32) ≤ x2 then (
   qup (some h))
  else (
   qck ((x1 * (36 : Int32)) + x2) 144 (
   qbd (h.1 36 ((x1 * (36 : Int32)) + x2).toNatClampNeg) (fun v40 : Int32 =>
   qbd (0 : Int32) (fun v42 : Int32 =>
   f_X1_groupSquares_b44_loop x1 x2 v40 v42 h))))
set_option maxRecDepth 20000 in
theorem s_X1_groupSquares_b23 {l : Launch} {g : qa_G} {d : Nat} {rz : Option Value} {hz : qa_M} (x1 : Int32) (x2 : Int32) (h : qa_M) {z : ((Int32 × Int32 × qa_M) ⊕ qa_M)} (E : f_X1_groupSquares_b23 x1 x2 h = some z) (G : (Sum.elim (fun (sz : Int32 × Int32 × qa_M) => qt_At l g (yX1_groupSquares, cX1_groupSquares, 5, none) d 0 0 23 [(0, .ref (g.1 + 34)), (1, .int sz.1), (2, .int sz.2.1)] [] sz.2.2 rz hz) (qg_v rz hz)) z) : qt_At l g (yX1_groupSquares, cX1_groupSquares, 5, none) d 0 0 23 [(0, .ref (g.1 + 34)), (1, .int x1), (2, .int x2)] [] h rz hz := by
  unfold f_X1_groupSquares_b23 at E
  refine qt_iload_n 2 dX1_groupSquares_23 rfl rfl ?_
  refine qt_bipush dX1_groupSquares_24 cb_36 ?_
  refine qt_icmp_ge 145 dX1_groupSquares_26 (by decide) E (fun E => ?_) (fun E => ?_)
  · obtain ⟨z0_, E, G⟩ := qup_g E G
    exact qt_vreturn rfl (Nat.le_of_ble_eq_true rfl) dX1_groupSquares_145 E G
  · refine qt_aload_n 0 dX1_groupSquares_29 rfl rfl ?_
    refine qt_getS 36 (wl_34 h) fe_RX1_15 rfl dX1_groupSquares_30 ?_
    refine qt_iload_n 1 dX1_groupSquares_33 rfl rfl ?_
    refine qt_bipush dX1_groupSquares_34 cb_36 ?_
    refine qt_imul dX1_groupSquares_36 ?_
    refine qt_iload_n 2 dX1_groupSquares_37 rfl rfl ?_
    refine qt_iadd dX1_groupSquares_38 ?_
    refine qt_iald (wl_36 h) dX1_groupSquares_39 E (fun E => ?_)
    refine qt_istore_n (fun v40 => [(3, .int v40), (0, .ref (g.1 + 34)), (1, .int x1), (2, .int x2)]) dX1_groupSquares_40 rfl (Nat.le_of_ble_eq_true rfl) (fun _ => rfl) E (fun v40 E => ?_)
    refine qt_iconst dX1_groupSquares_41 ci_0 ?_
    refine qt_istore (fun v42 => [(4, .int v42), (3, .int v40), (0, .ref (g.1 + 34)), (1, .int x1), (2, .int x2)]) dX1_groupSquares_42 (Nat.le_of_ble_eq_true rfl) (fun _ => rfl) E (fun v42 E => ?_)
    exact qt_sub _ [2, 3, 4, 1, 0] rfl ((s_X1_groupSquares_b44_loop x1 x2 v40 v42 h E G))
noncomputable def f_X1_groupSquares_b23_loop (x1 : Int32) (x2 : Int32) (h : qa_M) : Option qa_M := qlp (fun sz : Int32 × Int32 × qa_M => f_X1_groupSquares_b23 sz.1 sz.2.1 sz.2.2) (x1, x2, h)
theorem s_X1_groupSquares_b23_loop {l : Launch} {g : qa_G} {d : Nat} {rz : Option Value} {hz : qa_M} (x1 : Int32) (x2 : Int32) (h : qa_M) {z : qa_M} (E : f_X1_groupSquares_b23_loop x1 x2 h = some z) (G : (qg_v rz hz) z) : qt_At l g (yX1_groupSquares, cX1_groupSquares, 5, none) d 0 0 23 [(0, .ref (g.1 + 34)), (1, .int x1), (2, .int x2)] [] h rz hz :=
  qlp_ind (fun sz : Int32 × Int32 × qa_M => qt_At l g (yX1_groupSquares, cX1_groupSquares, 5, none) d 0 0 23 [(0, .ref (g.1 + 34)), (1, .int sz.1), (2, .int sz.2.1)] [] sz.2.2 rz hz) (fun sz E => s_X1_groupSquares_b23 sz.1 sz.2.1 sz.2.2 E G) (fun sz sz2 E ih => s_X1_groupSquares_b23 sz.1 sz.2.1 sz.2.2 E ih) (x1, x2, h) E
noncomputable def m_X1_groupSquares (x1 : Int32) (h : qa_M) : Option qa_M :=
  qbd (qw_I h 34 4 (1 : Int32)) (fun h2 : qa_M =>
  qck (0 : Int32) 37 (
  qbd (qw_J h2 38 (0 : Int32).toNatClampNeg (-1 : Int64)) (fun h13 : qa_M =>
  qck (0 : Int32) 37 (
  qbd (qw_I h13 39 (0 : Int32).toNatClampNeg (0 : Int32)) (fun h20 : qa_M =>
  qbd (0 : Int32) (fun v22 : Int32 =>
  f_X1_groupSquares_b23_loop x1 v22 h20))))))
set_option maxRecDepth 20000 in
theorem c_X1_groupSquares {l : Launch} {g : qa_G} {d : Nat} (x1 : Int32) (h : qa_M) {h1 : qa_M} (E : m_X1_groupSquares x1 h = some h1) : qt_Met l g (yX1_groupSquares, cX1_groupSquares, 5, none) d 0 [.ref (g.1 + 34), .int x1] h none h1 := by
  refine qt_Met.of (plainFor_of_name (by decide)) (Nat.le_of_ble_eq_true rfl) ?_
  have G : qg_v none h1 (h1) := ⟨rfl, rfl⟩
  unfold m_X1_groupSquares at E
  refine qt_aload_n 0 dX1_groupSquares_0 rfl rfl ?_
  refine qt_iconst dX1_groupSquares_1 ci_1 ?_
  refine qt_putI (wl_34 h) fd_RX1_83 rfl rfl rfl dX1_groupSquares_2 E (fun h2 E => ?_)
  refine qt_aload_n 0 dX1_groupSquares_5 rfl rfl ?_
  refine qt_getS 38 (wl_34 h2) fe_RX1_21 rfl dX1_groupSquares_6 ?_
  refine qt_iconst dX1_groupSquares_9 ci_0 ?_
  refine qt_ldc2 tb_1108 dX1_groupSquares_10 ?_
  refine qt_last (wl_38 h2) dX1_groupSquares_13 E (fun h13 E => ?_)
  refine qt_aload_n 0 dX1_groupSquares_14 rfl rfl ?_
  refine qt_getS 39 (wl_34 h13) fe_RX1_25 rfl dX1_groupSquares_15 ?_
  refine qt_iconst dX1_groupSquares_18 ci_0 ?_
  refine qt_iconst dX1_groupSquares_19 ci_0 ?_
  refine qt_iast (wl_39 h13) dX1_groupSquares_20 E (fun h20 E => ?_)
  refine qt_iconst dX1_groupSquares_21 ci_0 ?_
  refine qt_istore_n (fun v22 => [(2, .int v22), (0, .ref (g.1 + 34)), (1, .int x1)]) dX1_groupSquares_22 rfl (Nat.le_of_ble_eq_true rfl) (fun _ => rfl) E (fun v22 E => ?_)
  exact qt_sub _ [1, 2, 0] rfl ((s_X1_groupSquares_b23_loop x1 v22 h20 E G))
noncomputable def m_X7_placed (h : qa_M) : Option (Int32 × qa_M) :=
  some (((h.1 22 4) - (1 : Int32)), h)
set_option maxRecDepth 20000 in
theorem c_X7_placed {l : Launch} {g : qa_G} {d : Nat} (h : qa_M) {c : Int32} {h1 : qa_M} (E : m_X7_placed h = some (c, h1)) : qt_Met l g (yX7_placed, cX7_placed, 1, (some .int)) d 0 [.ref (g.1 + 22)] h (some (.int c)) h1 := by
  refine qt_Met.of (plainFor_of_name (by decide)) (Nat.le_of_ble_eq_true rfl) ?_
  have G : qg_i (some (.int c)) h1 ((c, h1)) := ⟨rfl, rfl⟩
  unfold m_X7_placed at E
  refine qt_aload_n 0 dX7_placed_0 rfl rfl ?_
  refine qt_getI (wl_22 h) fe_RX7_62 rfl dX7_placed_1 ?_
  refine qt_iconst dX7_placed_4 ci_1 ?_
  refine qt_isub dX7_placed_5 ?_
  exact qt_ireturn rfl (Nat.le_of_ble_eq_true rfl) dX7_placed_6 E G
noncomputable def m_X7_placedSort (x1 : Int32) (h : qa_M) : Option (Int32 × qa_M) :=
  qck x1 4 (
  some (h.1 26 x1.toNatClampNeg, h))
set_option maxRecDepth 20000 in
theorem c_X7_placedSort {l : Launch} {g : qa_G} {d : Nat} (x1 : Int32) (h : qa_M) {c : Int32} {h1 : qa_M} (E : m_X7_placedSort x1 h = some (c, h1)) : qt_Met l g (yX7_placedSort, cX7_placedSort, 2, (some .int)) d 0 [.ref (g.1 + 22), .int x1] h (some (.int c)) h1 := by
  refine qt_Met.of (plainFor_of_name (by decide)) (Nat.le_of_ble_eq_true rfl) ?_
  have G : qg_i (some (.int c)) h1 ((c, h1)) := ⟨rfl, rfl⟩
  unfold m_X7_placedSort at E
  refine qt_aload_n 0 dX7_placedSort_0 rfl rfl ?_
  refine qt_getS 26 (wl_22 h) fe_RX7_22 rfl dX7_placedSort_1 ?_
  refine qt_iload_n 1 dX7_placedSort_4 rfl rfl ?_
  refine qt_iald (wl_26 h) dX7_placedSort_5 E (fun E => ?_)
  exact qt_ireturn rfl (Nat.le_of_ble_eq_true rfl) dX7_placedSort_6 E G
noncomputable def m_X7_placedAt (x1 : Int32) (h : qa_M) : Option (Int32 × qa_M) :=
  qck x1 4 (
  some (h.1 31 x1.toNatClampNeg, h))
set_option maxRecDepth 20000 in
theorem c_X7_placedAt {l : Launch} {g : qa_G} {d : Nat} (x1 : Int32) (h : qa_M) {c : Int32} {h1 : qa_M} (E : m_X7_placedAt x1 h = some (c, h1)) : qt_Met l g (yX7_placedAt, cX7_placedAt, 2, (some .int)) d 0 [.ref (g.1 + 22), .int x1] h (some (.int c)) h1 := by
  refine qt_Met.of (plainFor_of_name (by decide)) (Nat.le_of_ble_eq_true rfl) ?_
  have G : qg_i (some (.int c)) h1 ((c, h1)) := ⟨rfl, rfl⟩
  unfold m_X7_placedAt at E
  refine qt_aload_n 0 dX7_placedAt_0 rfl rfl ?_
  refine qt_getS 31 (wl_22 h) fe_RX7_37 rfl dX7_placedAt_1 ?_
  refine qt_iload_n 1 dX7_placedAt_4 rfl rfl ?_
  refine qt_iald (wl_31 h) dX7_placedAt_5 E (fun E => ?_)
  exact qt_ireturn rfl (Nat.le_of_ble_eq_true rfl) dX7_placedAt_6 E G
noncomputable def m_X1_fitting (x1 : Int32) (x2 : Int32) (x3 : Int32) (x4 : Int32) (h : qa_M) : Option (Int32 × qa_M) :=
  qck (4 : Int32) 5 (
  qck (0 : Int32) 5 (
  qck (1 : Int32) 5 (
  qck (2 : Int32) 5 (
  qck (3 : Int32) 5 (
  some (((((((h.1 37 (4 : Int32).toNatClampNeg) &&& x1) ||| ((h.1 37 (0 : Int32).toNatClampNeg) &&& (x1 ^^^ (-1 : Int32)))) ||| ((h.1 37 (1 : Int32).toNatClampNeg) &&& (x2 ^^^ (-1 : Int32)))) ||| ((h.1 37 (2 : Int32).toNatClampNeg) &&& (x3 ^^^ (-1 : Int32)))) ||| ((h.1 37 (3 : Int32).toNatClampNeg) &&& (x4 ^^^ (-1 : Int32)))), h))))))
set_option maxRecDepth 20000 in
theorem c_X1_fitting {l : Launch} {g : qa_G} {d : Nat} (x1 : Int32) (x2 : Int32) (x3 : Int32) (x4 : Int32) (h : qa_M) {c : Int32} {h1 : qa_M} (E : m_X1_fitting x1 x2 x3 x4 h = some (c, h1)) : qt_Met l g (yX1_fitting, cX1_fitting, 5, (some .int)) d 0 [.ref (g.1 + 34), .int x1, .int x2, .int x3, .int x4] h (some (.int c)) h1 := by
  refine qt_Met.of (plainFor_of_name (by decide)) (Nat.le_of_ble_eq_true rfl) ?_
  have G : qg_i (some (.int c)) h1 ((c, h1)) := ⟨rfl, rfl⟩
  unfold m_X1_fitting at E
  refine qt_aload_n 0 dX1_fitting_0 rfl rfl ?_
  refine qt_getS 37 (wl_34 h) fe_RX1_18 rfl dX1_fitting_1 ?_
  refine qt_iconst dX1_fitting_4 ci_4 ?_
  refine qt_iald (wl_37 h) dX1_fitting_5 E (fun E => ?_)
  refine qt_iload_n 1 dX1_fitting_6 rfl rfl ?_
  refine qt_iand dX1_fitting_7 ?_
  refine qt_aload_n 0 dX1_fitting_8 rfl rfl ?_
  refine qt_getS 37 (wl_34 h) fe_RX1_18 rfl dX1_fitting_9 ?_
  refine qt_iconst dX1_fitting_12 ci_0 ?_
  refine qt_iald (wl_37 h) dX1_fitting_13 E (fun E => ?_)
  refine qt_iload_n 1 dX1_fitting_14 rfl rfl ?_
  refine qt_iconst dX1_fitting_15 ci_m1 ?_
  refine qt_ixor dX1_fitting_16 ?_
  refine qt_iand dX1_fitting_17 ?_
  refine qt_ior dX1_fitting_18 ?_
  refine qt_aload_n 0 dX1_fitting_19 rfl rfl ?_
  refine qt_getS 37 (wl_34 h) fe_RX1_18 rfl dX1_fitting_20 ?_
  refine qt_iconst dX1_fitting_23 ci_1 ?_
  refine qt_iald (wl_37 h) dX1_fitting_24 E (fun E => ?_)
  refine qt_iload_n 2 dX1_fitting_25 rfl rfl ?_
  refine qt_iconst dX1_fitting_26 ci_m1 ?_
  refine qt_ixor dX1_fitting_27 ?_
  refine qt_iand dX1_fitting_28 ?_
  refine qt_ior dX1_fitting_29 ?_
  refine qt_aload_n 0 dX1_fitting_30 rfl rfl ?_
  refine qt_getS 37 (wl_34 h) fe_RX1_18 rfl dX1_fitting_31 ?_
  refine qt_iconst dX1_fitting_34 ci_2 ?_
  refine qt_iald (wl_37 h) dX1_fitting_35 E (fun E => ?_)
  refine qt_iload_n 3 dX1_fitting_36 rfl rfl ?_
  refine qt_iconst dX1_fitting_37 ci_m1 ?_
  refine qt_ixor dX1_fitting_38 ?_
  refine qt_iand dX1_fitting_39 ?_
  refine qt_ior dX1_fitting_40 ?_
  refine qt_aload_n 0 dX1_fitting_41 rfl rfl ?_
  refine qt_getS 37 (wl_34 h) fe_RX1_18 rfl dX1_fitting_42 ?_
  refine qt_iconst dX1_fitting_45 ci_3 ?_
  refine qt_iald (wl_37 h) dX1_fitting_46 E (fun E => ?_)
  refine qt_iload 4 dX1_fitting_47 rfl ?_
  refine qt_iconst dX1_fitting_49 ci_m1 ?_
  refine qt_ixor dX1_fitting_50 ?_
  refine qt_iand dX1_fitting_51 ?_
  refine qt_ior dX1_fitting_52 ?_
  exact qt_ireturn rfl (Nat.le_of_ble_eq_true rfl) dX1_fitting_53 E G
noncomputable def f_X1_countLayings_b94 (x5 : Int32) (x6 : Int32) (x7 : Int32) (h : qa_M) : Option ((Int32 × Int32 × Int32 × qa_M) ⊕ qa_M) :=
  if (h.1 34 4) ≤ x7 then (
   qup (some h))
  else (
   qck x7 37 (
   qbn (m_J13_bitCount_95d88 ((h.2.1 22 15) &&& (h.2.1 38 x7.toNatClampNeg)) h) (fun (c115 : Int32) (h115 : qa_M) =>
   qbd c115 (fun v118 : Int32 =>
   qck x7 37 (
   qck x7 37 (
   qck ((x5 &&& ((h115.1 39 x7.toNatClampNeg) ^^^ (-1 : Int32))) ||| (x6 &&& (h115.1 39 x7.toNatClampNeg))) 1024 (
   qck ((x5 &&& ((h115.1 39 x7.toNatClampNeg) ^^^ (-1 : Int32))) ||| (x6 &&& (h115.1 39 x7.toNatClampNeg))) 1024 (
   qbd (qw_I h115 35 ((x5 &&& ((h115.1 39 x7.toNatClampNeg) ^^^ (-1 : Int32))) ||| (x6 &&& (h115.1 39 x7.toNatClampNeg))).toNatClampNeg ((h115.1 35 ((x5 &&& ((h115.1 39 x7.toNatClampNeg) ^^^ (-1 : Int32))) ||| (x6 &&& (h115.1 39 x7.toNatClampNeg))).toNatClampNeg) + v118)) (fun h152 : qa_M =>
   qbd (x7 + (1 : Int32)) (fun v153 : Int32 =>
   some (.inl (x5, x6, v153, h152))))))))))))
set_option maxRecDepth 20000 in
theorem s_X1_countLayings_b94 {l : Launch} {g : qa_G} {d : Nat} {rz : Option Value} {hz : qa_M} (x5 : Int32) (x6 : Int32) (x7 : Int32) (h : qa_M) {z : ((Int32 × Int32 × Int32 × qa_M) ⊕ qa_M)} (E : f_X1_countLayings_b94 x5 x6 x7 h = some z) (G : (Sum.elim (fun (sz : Int32 × Int32 × Int32 × qa_M) => qt_At l g (yX1_countLayings, cX1_countLayings, 9, none) (d + 1) 0 0 94 [(0, .ref (g.1 + 34)), (1, .ref (g.1 + 22)), (5, .int sz.1), (6, .int sz.2.1), (7, .int sz.2.2.1)] [] sz.2.2.2 rz hz) (qg_v rz hz)) z) : qt_At l g (yX1_countLayings, cX1_countLayings, 9, none) (d + 1) 0 0 94 [(0, .ref (g.1 + 34)), (1, .ref (g.1 + 22)), (5, .int x5), (6, .int x6), (7, .int x7)] [] h rz hz := by
  unfold f_X1_countLayings_b94 at E
  refine qt_iload 4 dX1_countLayings_94 rfl ?_
  refine qt_aload_n 0 dX1_countLayings_96 rfl rfl ?_
  refine qt_getI (wl_34 h) fe_RX1_83 rfl dX1_countLayings_97 ?_
  refine qt_icmp_ge 159 dX1_countLayings_100 (by decide) E (fun E => ?_) (fun E => ?_)
  · obtain ⟨z0_, E, G⟩ := qup_g E G
    exact qt_vreturn rfl (Nat.le_of_ble_eq_true rfl) dX1_countLayings_159 E G
  · refine qt_aload_n 1 dX1_countLayings_103 rfl rfl ?_
    refine qt_getJ (wl_22 h) fe_RX1_101 rfl dX1_countLayings_104 ?_
    refine qt_aload_n 0 dX1_countLayings_107 rfl rfl ?_
    refine qt_getS 38 (wl_34 h) fe_RX1_21 rfl dX1_countLayings_108 ?_
    refine qt_iload 4 dX1_countLayings_111 rfl ?_
    refine qt_lald (wl_38 h) dX1_countLayings_113 E (fun E => ?_)
    refine qt_land dX1_countLayings_114 ?_
    obtain ⟨c115, h115, e115, E⟩ := qbn_el E
    refine qt_callSi (b2 := 0) [.long ((h.2.1 22 15) &&& (h.2.1 38 x7.toNatClampNeg))] (c_J13_bitCount_95d88 ((h.2.1 22 15) &&& (h.2.1 38 x7.toNatClampNeg)) h e115) cv_RX1_105 rfl (Nat.le_of_ble_eq_true rfl) (Nat.le_of_ble_eq_true rfl) dX1_countLayings_115 ?_
    refine qt_istore (fun v118 => [(8, .int v118), (0, .ref (g.1 + 34)), (1, .ref (g.1 + 22)), (5, .int x5), (6, .int x6), (7, .int x7)]) dX1_countLayings_118 (Nat.le_of_ble_eq_true rfl) (fun _ => rfl) E (fun v118 E => ?_)
    refine qt_aload_n 1 dX1_countLayings_120 rfl rfl ?_
    refine qt_getS 35 (wl_34 h115) fe_RX1_11 rfl dX1_countLayings_121 ?_
    refine qt_iload 3 dX1_countLayings_124 rfl ?_
    refine qt_aload_n 1 dX1_countLayings_126 rfl rfl ?_
    refine qt_getS 39 (wl_34 h115) fe_RX1_25 rfl dX1_countLayings_127 ?_
    refine qt_iload 5 dX1_countLayings_130 rfl ?_
    refine qt_iald (wl_39 h115) dX1_countLayings_132 E (fun E => ?_)
    refine qt_iconst dX1_countLayings_133 ci_m1 ?_
    refine qt_ixor dX1_countLayings_134 ?_
    refine qt_iand dX1_countLayings_135 ?_
    refine qt_iload 4 dX1_countLayings_136 rfl ?_
    refine qt_aload_n 1 dX1_countLayings_138 rfl rfl ?_
    refine qt_getS 39 (wl_34 h115) fe_RX1_25 rfl dX1_countLayings_139 ?_
    refine qt_iload 5 dX1_countLayings_142 rfl ?_
    refine qt_iald (wl_39 h115) dX1_countLayings_144 E (fun E => ?_)
    refine qt_iand dX1_countLayings_145 ?_
    refine qt_ior dX1_countLayings_146 ?_
    refine qt_dup2_11 dX1_countLayings_147 rfl rfl ?_
    refine qt_iald (wl_35 h115) dX1_countLayings_148 E (fun E => ?_)
    refine qt_iload 0 dX1_countLayings_149 rfl ?_
    refine qt_iadd dX1_countLayings_151 ?_
    refine qt_iast (wl_35 h115) dX1_countLayings_152 E (fun h152 E => ?_)
    refine qt_iinc 5 (fun v153 => [(7, .int v153), (8, .int v118), (0, .ref (g.1 + 34)), (1, .ref (g.1 + 22)), (5, .int x5), (6, .int x6)]) dX1_countLayings_153 rfl ci_1 (Nat.le_of_ble_eq_true rfl) (fun _ => rfl) E (fun v153 E => ?_)
    refine qt_goto 94 dX1_countLayings_156 (by decide) ?_
    cases E
    exact qt_sub _ [2, 3, 4, 5, 0] rfl (G)
noncomputable def f_X1_countLayings_b94_loop (x5 : Int32) (x6 : Int32) (x7 : Int32) (h : qa_M) : Option qa_M := qlp (fun sz : Int32 × Int32 × Int32 × qa_M => f_X1_countLayings_b94 sz.1 sz.2.1 sz.2.2.1 sz.2.2.2) (x5, x6, x7, h)
theorem s_X1_countLayings_b94_loop {l : Launch} {g : qa_G} {d : Nat} {rz : Option Value} {hz : qa_M} (x5 : Int32) (x6 : Int32) (x7 : Int32) (h : qa_M) {z : qa_M} (E : f_X1_countLayings_b94_loop x5 x6 x7 h = some z) (G : (qg_v rz hz) z) : qt_At l g (yX1_countLayings, cX1_countLayings, 9, none) (d + 1) 0 0 94 [(0, .ref (g.1 + 34)), (1, .ref (g.1 + 22)), (5, .int x5), (6, .int x6), (7, .int x7)] [] h rz hz :=
  qlp_ind (fun sz : Int32 × Int32 × Int32 × qa_M => qt_At l g (yX1_countLayings, cX1_countLayings, 9, none) (d + 1) 0 0 94 [(0, .ref (g.1 + 34)), (1, .ref (g.1 + 22)), (5, .int sz.1), (6, .int sz.2.1), (7, .int sz.2.2.1)] [] sz.2.2.2 rz hz) (fun sz E => s_X1_countLayings_b94 sz.1 sz.2.1 sz.2.2.1 sz.2.2.2 E G) (fun sz sz2 E ih => s_X1_countLayings_b94 sz.1 sz.2.1 sz.2.2.1 sz.2.2.2 E ih) (x5, x6, x7, h) E
noncomputable def f_X1_countLayings_b69 (x2 : Int32) (x3 : Int32) (x4 : Int32) (h : qa_M) : Option qa_M :=
  qbn (m_X1_fitting x2 x3 x4 (0 : Int32) h) (fun (c75 : Int32) (h75 : qa_M) =>
  qbd c75 (fun v78 : Int32 =>
  qbn (m_X1_fitting (-1 : Int32) x2 x3 x4 h75) (fun (c86 : Int32) (h86 : qa_M) =>
  qbd c86 (fun v89 : Int32 =>
  qbd (0 : Int32) (fun v92 : Int32 =>
  f_X1_countLayings_b94_loop v78 v89 v92 h86)))))
set_option maxRecDepth 20000 in
theorem s_X1_countLayings_b69 {l : Launch} {g : qa_G} {d : Nat} {rz : Option Value} {hz : qa_M} (x2 : Int32) (x3 : Int32) (x4 : Int32) (h : qa_M) {z : qa_M} (E : f_X1_countLayings_b69 x2 x3 x4 h = some z) (G : (qg_v rz hz) z) : qt_At l g (yX1_countLayings, cX1_countLayings, 9, none) (d + 1) 0 0 69 [(0, .ref (g.1 + 34)), (1, .ref (g.1 + 22)), (2, .int x2), (3, .int x3), (4, .int x4)] [] h rz hz := by
  unfold f_X1_countLayings_b69 at E
  refine qt_aload_n 0 dX1_countLayings_69 rfl rfl ?_
  refine qt_iload_n 2 dX1_countLayings_70 rfl rfl ?_
  refine qt_iload_n 3 dX1_countLayings_71 rfl rfl ?_
  refine qt_iload 4 dX1_countLayings_72 rfl ?_
  refine qt_iconst dX1_countLayings_74 ci_0 ?_
  obtain ⟨c75, h75, e75, E⟩ := qbn_el E
  refine qt_callVi (b2 := 0) [.int x2, .int x3, .int x4, .int (0 : Int32)] (c_X1_fitting x2 x3 x4 (0 : Int32) h e75) cv_RX1_97 (wl_34 h) rfl rfl rfl (Nat.le_of_ble_eq_true rfl) (Nat.le_of_ble_eq_true rfl) dX1_countLayings_75 ?_
  refine qt_istore (fun v78 => [(5, .int v78), (0, .ref (g.1 + 34)), (1, .ref (g.1 + 22)), (2, .int x2), (3, .int x3), (4, .int x4)]) dX1_countLayings_78 (Nat.le_of_ble_eq_true rfl) (fun _ => rfl) E (fun v78 E => ?_)
  refine qt_aload_n 1 dX1_countLayings_80 rfl rfl ?_
  refine qt_iconst dX1_countLayings_81 ci_m1 ?_
  refine qt_iload_n 3 dX1_countLayings_82 rfl rfl ?_
  refine qt_iload_n 4 dX1_countLayings_83 rfl rfl ?_
  refine qt_iload 5 dX1_countLayings_84 rfl ?_
  obtain ⟨c86, h86, e86, E⟩ := qbn_el E
  refine qt_callVi (b2 := 0) [.int (-1 : Int32), .int x2, .int x3, .int x4] (c_X1_fitting (-1 : Int32) x2 x3 x4 h75 e86) cv_RX1_97 (wl_34 h75) rfl rfl rfl (Nat.le_of_ble_eq_true rfl) (Nat.le_of_ble_eq_true rfl) dX1_countLayings_86 ?_
  refine qt_istore (fun v89 => [(6, .int v89), (5, .int v78), (0, .ref (g.1 + 34)), (1, .ref (g.1 + 22)), (2, .int x2), (3, .int x3), (4, .int x4)]) dX1_countLayings_89 (Nat.le_of_ble_eq_true rfl) (fun _ => rfl) E (fun v89 E => ?_)
  refine qt_iconst dX1_countLayings_91 ci_0 ?_
  refine qt_istore (fun v92 => [(7, .int v92), (6, .int v89), (5, .int v78), (0, .ref (g.1 + 34)), (1, .ref (g.1 + 22)), (2, .int x2), (3, .int x3), (4, .int x4)]) dX1_countLayings_92 (Nat.le_of_ble_eq_true rfl) (fun _ => rfl) E (fun v92 E => ?_)
  exact qt_sub _ [3, 4, 2, 1, 0] rfl ((s_X1_countLayings_b94_loop v78 v89 v92 h86 E G))
noncomputable def f_X1_countLayings_b10 (x2 : Int32) (x3 : Int32) (x4 : Int32) (x5 : Int32) (h : qa_M) : Option ((Int32 × Int32 × Int32 × Int32 × qa_M) ⊕ qa_M) :=
  qbn (m_X7_placed h) (fun (c13 : Int32) (h13 : qa_M) =>
  if c13 ≤ x5 then (
   qup (f_X1_countLayings_b69 x2 x3 x4 h13))
  else (
   qbn (m_X7_placedSort x5 h13) (fun (c26 : Int32) (h26 : qa_M) =>
   qbn (m_X7_placedAt x5 h26) (fun (c35 : Int32) (h35 : qa_M) =>
   qck ((c26 * (36 : Int32)) + c35) 144 (
   qbd (h35.1 36 ((c26 * (36 : Int32)) + c35).toNatClampNeg) (fun v40 : Int32 =>
   qbd (x4 ||| (x3 &&& v40)) (fun v49 : Int32 =>
   qbd (x3 ||| (x2 &&& v40)) (fun v57 : Int32 =>
   qbd (x2 ||| v40) (fun v62 : Int32 =>
   qbd (x5 + (1 : Int32)) (fun v63 : Int32 =>
   some (.inl (v62, v57, v49, v63, h35))))))))))))
set_option maxRecDepth 20000 in
theorem s_X1_countLayings_b10 {l : Launch} {g : qa_G} {d : Nat} {rz : Option Value} {hz : qa_M} (x2 : Int32) (x3 : Int32) (x4 : Int32) (x5 : Int32) (h : qa_M) {z : ((Int32 × Int32 × Int32 × Int32 × qa_M) ⊕ qa_M)} (E : f_X1_countLayings_b10 x2 x3 x4 x5 h = some z) (G : (Sum.elim (fun (sz : Int32 × Int32 × Int32 × Int32 × qa_M) => qt_At l g (yX1_countLayings, cX1_countLayings, 9, none) (d + 1) 0 0 10 [(0, .ref (g.1 + 34)), (1, .ref (g.1 + 22)), (2, .int sz.1), (3, .int sz.2.1), (4, .int sz.2.2.1), (5, .int sz.2.2.2.1)] [] sz.2.2.2.2 rz hz) (qg_v rz hz)) z) : qt_At l g (yX1_countLayings, cX1_countLayings, 9, none) (d + 1) 0 0 10 [(0, .ref (g.1 + 34)), (1, .ref (g.1 + 22)), (2, .int x2), (3, .int x3), (4, .int x4), (5, .int x5)] [] h rz hz := by
  unfold f_X1_countLayings_b10 at E
  refine qt_iload 5 dX1_countLayings_10 rfl ?_
  refine qt_aload_n 1 dX1_countLayings_12 rfl rfl ?_
  obtain ⟨c13, h13, e13, E⟩ := qbn_el E
  refine qt_callVi (b2 := 0) [] (c_X7_placed h e13) cv_RX1_88 (wl_22 h) rfl rfl rfl (Nat.le_of_ble_eq_true rfl) (Nat.le_of_ble_eq_true rfl) dX1_countLayings_13 ?_
  refine qt_icmp_ge 69 dX1_countLayings_16 (by decide) E (fun E => ?_) (fun E => ?_)
  · obtain ⟨z0_, E, G⟩ := qup_g E G
    exact qt_sub _ [0, 1, 2, 3, 4] rfl ((s_X1_countLayings_b69 x2 x3 x4 h13 E G))
  · refine qt_aload_n 0 dX1_countLayings_19 rfl rfl ?_
    refine qt_getS 36 (wl_34 h13) fe_RX1_15 rfl dX1_countLayings_20 ?_
    refine qt_aload_n 1 dX1_countLayings_23 rfl rfl ?_
    refine qt_iload 5 dX1_countLayings_24 rfl ?_
    obtain ⟨c26, h26, e26, E⟩ := qbn_el E
    refine qt_callVi (b2 := 0) [.int x5] (c_X7_placedSort x5 h13 e26) cv_RX1_91 (wl_22 h13) rfl rfl rfl (Nat.le_of_ble_eq_true rfl) (Nat.le_of_ble_eq_true rfl) dX1_countLayings_26 ?_
    refine qt_bipush dX1_countLayings_29 cb_36 ?_
    refine qt_imul dX1_countLayings_31 ?_
    refine qt_aload_n 1 dX1_countLayings_32 rfl rfl ?_
    refine qt_iload 5 dX1_countLayings_33 rfl ?_
    obtain ⟨c35, h35, e35, E⟩ := qbn_el E
    refine qt_callVi (b2 := 0) [.int x5] (c_X7_placedAt x5 h26 e35) cv_RX1_94 (wl_22 h26) rfl rfl rfl (Nat.le_of_ble_eq_true rfl) (Nat.le_of_ble_eq_true rfl) dX1_countLayings_35 ?_
    refine qt_iadd dX1_countLayings_38 ?_
    refine qt_iald (wl_36 h35) dX1_countLayings_39 E (fun E => ?_)
    refine qt_istore (fun v40 => [(6, .int v40), (0, .ref (g.1 + 34)), (1, .ref (g.1 + 22)), (2, .int x2), (3, .int x3), (4, .int x4), (5, .int x5)]) dX1_countLayings_40 (Nat.le_of_ble_eq_true rfl) (fun _ => rfl) E (fun v40 E => ?_)
    refine qt_iload 5 dX1_countLayings_42 rfl ?_
    refine qt_iload_n 4 dX1_countLayings_44 rfl rfl ?_
    refine qt_iload 0 dX1_countLayings_45 rfl ?_
    refine qt_iand dX1_countLayings_47 ?_
    refine qt_ior dX1_countLayings_48 ?_
    refine qt_istore (fun v49 => [(4, .int v49), (6, .int v40), (0, .ref (g.1 + 34)), (1, .ref (g.1 + 22)), (2, .int x2), (3, .int x3), (5, .int x5)]) dX1_countLayings_49 (Nat.le_of_ble_eq_true rfl) (fun _ => rfl) E (fun v49 E => ?_)
    refine qt_iload_n 5 dX1_countLayings_51 rfl rfl ?_
    refine qt_iload_n 4 dX1_countLayings_52 rfl rfl ?_
    refine qt_iload 1 dX1_countLayings_53 rfl ?_
    refine qt_iand dX1_countLayings_55 ?_
    refine qt_ior dX1_countLayings_56 ?_
    refine qt_istore_n (fun v57 => [(3, .int v57), (4, .int v49), (6, .int v40), (0, .ref (g.1 + 34)), (1, .ref (g.1 + 22)), (2, .int x2), (5, .int x5)]) dX1_countLayings_57 rfl (Nat.le_of_ble_eq_true rfl) (fun _ => rfl) E (fun v57 E => ?_)
    refine qt_iload_n 5 dX1_countLayings_58 rfl rfl ?_
    refine qt_iload 2 dX1_countLayings_59 rfl ?_
    refine qt_ior dX1_countLayings_61 ?_
    refine qt_istore_n (fun v62 => [(2, .int v62), (3, .int v57), (4, .int v49), (6, .int v40), (0, .ref (g.1 + 34)), (1, .ref (g.1 + 22)), (5, .int x5)]) dX1_countLayings_62 rfl (Nat.le_of_ble_eq_true rfl) (fun _ => rfl) E (fun v62 E => ?_)
    refine qt_iinc 6 (fun v63 => [(5, .int v63), (2, .int v62), (3, .int v57), (4, .int v49), (6, .int v40), (0, .ref (g.1 + 34)), (1, .ref (g.1 + 22))]) dX1_countLayings_63 rfl ci_1 (Nat.le_of_ble_eq_true rfl) (fun _ => rfl) E (fun v63 E => ?_)
    refine qt_goto 10 dX1_countLayings_66 (by decide) ?_
    cases E
    exact qt_sub _ [5, 6, 1, 2, 3, 0] rfl (G)
noncomputable def f_X1_countLayings_b10_loop (x2 : Int32) (x3 : Int32) (x4 : Int32) (x5 : Int32) (h : qa_M) : Option qa_M := qlp (fun sz : Int32 × Int32 × Int32 × Int32 × qa_M => f_X1_countLayings_b10 sz.1 sz.2.1 sz.2.2.1 sz.2.2.2.1 sz.2.2.2.2) (x2, x3, x4, x5, h)
theorem s_X1_countLayings_b10_loop {l : Launch} {g : qa_G} {d : Nat} {rz : Option Value} {hz : qa_M} (x2 : Int32) (x3 : Int32) (x4 : Int32) (x5 : Int32) (h : qa_M) {z : qa_M} (E : f_X1_countLayings_b10_loop x2 x3 x4 x5 h = some z) (G : (qg_v rz hz) z) : qt_At l g (yX1_countLayings, cX1_countLayings, 9, none) (d + 1) 0 0 10 [(0, .ref (g.1 + 34)), (1, .ref (g.1 + 22)), (2, .int x2), (3, .int x3), (4, .int x4), (5, .int x5)] [] h rz hz :=
  qlp_ind (fun sz : Int32 × Int32 × Int32 × Int32 × qa_M => qt_At l g (yX1_countLayings, cX1_countLayings, 9, none) (d + 1) 0 0 10 [(0, .ref (g.1 + 34)), (1, .ref (g.1 + 22)), (2, .int sz.1), (3, .int sz.2.1), (4, .int sz.2.2.1), (5, .int sz.2.2.2.1)] [] sz.2.2.2.2 rz hz) (fun sz E => s_X1_countLayings_b10 sz.1 sz.2.1 sz.2.2.1 sz.2.2.2.1 sz.2.2.2.2 E G) (fun sz sz2 E ih => s_X1_countLayings_b10 sz.1 sz.2.1 sz.2.2.1 sz.2.2.2.1 sz.2.2.2.2 E ih) (x2, x3, x4, x5, h) E
noncomputable def m_X1_countLayings (h : qa_M) : Option qa_M :=
  qbd (0 : Int32) (fun v1 : Int32 =>
  qbd (0 : Int32) (fun v3 : Int32 =>
  qbd (0 : Int32) (fun v5 : Int32 =>
  qbd (0 : Int32) (fun v8 : Int32 =>
  f_X1_countLayings_b10_loop v1 v3 v5 v8 h))))
set_option maxRecDepth 20000 in
theorem c_X1_countLayings {l : Launch} {g : qa_G} {d : Nat} (h : qa_M) {h1 : qa_M} (E : m_X1_countLayings h = some h1) : qt_Met l g (yX1_countLayings, cX1_countLayings, 9, none) (d + 1) 0 [.ref (g.1 + 34), .ref (g.1 + 22)] h none h1 := by
  refine qt_Met.of (plainFor_of_name (by decide)) (Nat.le_of_ble_eq_true rfl) ?_
  have G : qg_v none h1 (h1) := ⟨rfl, rfl⟩
  unfold m_X1_countLayings at E
  refine qt_iconst dX1_countLayings_0 ci_0 ?_
  refine qt_istore_n (fun v1 => [(2, .int v1), (0, .ref (g.1 + 34)), (1, .ref (g.1 + 22))]) dX1_countLayings_1 rfl (Nat.le_of_ble_eq_true rfl) (fun _ => rfl) E (fun v1 E => ?_)
  refine qt_iconst dX1_countLayings_2 ci_0 ?_
  refine qt_istore_n (fun v3 => [(3, .int v3), (2, .int v1), (0, .ref (g.1 + 34)), (1, .ref (g.1 + 22))]) dX1_countLayings_3 rfl (Nat.le_of_ble_eq_true rfl) (fun _ => rfl) E (fun v3 E => ?_)
  refine qt_iconst dX1_countLayings_4 ci_0 ?_
  refine qt_istore (fun v5 => [(4, .int v5), (3, .int v3), (2, .int v1), (0, .ref (g.1 + 34)), (1, .ref (g.1 + 22))]) dX1_countLayings_5 (Nat.le_of_ble_eq_true rfl) (fun _ => rfl) E (fun v5 E => ?_)
  refine qt_iconst dX1_countLayings_7 ci_0 ?_
  refine qt_istore (fun v8 => [(5, .int v8), (4, .int v5), (3, .int v3), (2, .int v1), (0, .ref (g.1 + 34)), (1, .ref (g.1 + 22))]) dX1_countLayings_8 (Nat.le_of_ble_eq_true rfl) (fun _ => rfl) E (fun v8 E => ?_)
  exact qt_sub _ [4, 5, 3, 2, 1, 0] rfl ((s_X1_countLayings_b10_loop v1 v3 v5 v8 h E G))
noncomputable def f_X1_addSupersets_b50 (x1 : Int32) (h : qa_M) : Option ((Int32 × qa_M) ⊕ qa_M) :=
  qbd (x1 + (1 : Int32)) (fun v50 : Int32 =>
  some (.inl (v50, h)))
set_option maxRecDepth 20000 in
theorem s_X1_addSupersets_b50 {l : Launch} {g : qa_G} {d : Nat} {rz : Option Value} {hz : qa_M} (x1 : Int32) (h : qa_M) {z : ((Int32 × qa_M) ⊕ qa_M)} (E : f_X1_addSupersets_b50 x1 h = some z) (G : (Sum.elim (fun (sz : Int32 × qa_M) => qt_At l g (yX1_addSupersets, cX1_addSupersets, 3, none) d 0 0 2 [(0, .ref (g.1 + 34)), (1, .int sz.1)] [] sz.2 rz hz) (qg_v rz hz)) z) : qt_At l g (yX1_addSupersets, cX1_addSupersets, 3, none) d 0 0 50 [(0, .ref (g.1 + 34)), (1, .int x1)] [] h rz hz := by
  unfold f_X1_addSupersets_b50 at E
  refine qt_iinc 1 (fun v50 => [(1, .int v50), (0, .ref (g.1 + 34))]) dX1_addSupersets_50 rfl ci_1 (Nat.le_of_ble_eq_true rfl) (fun _ => rfl) E (fun v50 E => ?_)
  refine qt_goto 2 dX1_addSupersets_53 (by decide) ?_
  cases E
  exact qt_sub _ [1, 0] rfl (G)
noncomputable def f_X1_addSupersets_b44 (x1 : Int32) (x2 : Int32) (h : qa_M) : Option ((Int32 × Int32 × qa_M) ⊕ ((Int32 × qa_M) ⊕ qa_M)) :=
  qbd (x2 + (1 : Int32)) (fun v44 : Int32 =>
  some (.inl (x1, v44, h)))
set_option maxRecDepth 20000 in
theorem s_X1_addSupersets_b44 {l : Launch} {g : qa_G} {d : Nat} {rz : Option Value} {hz : qa_M} (x1 : Int32) (x2 : Int32) (h : qa_M) {z : ((Int32 × Int32 × qa_M) ⊕ ((Int32 × qa_M) ⊕ qa_M))} (E : f_X1_addSupersets_b44 x1 x2 h = some z) (G : (Sum.elim (fun (sz : Int32 × Int32 × qa_M) => qt_At l g (yX1_addSupersets, cX1_addSupersets, 3, none) d 0 0 10 [(0, .ref (g.1 + 34)), (1, .int sz.1), (2, .int sz.2.1)] [] sz.2.2 rz hz) (Sum.elim (fun (sz : Int32 × qa_M) => qt_At l g (yX1_addSupersets, cX1_addSupersets, 3, none) d 0 0 2 [(0, .ref (g.1 + 34)), (1, .int sz.1)] [] sz.2 rz hz) (qg_v rz hz))) z) : qt_At l g (yX1_addSupersets, cX1_addSupersets, 3, none) d 0 0 44 [(0, .ref (g.1 + 34)), (1, .int x1), (2, .int x2)] [] h rz hz := by
  unfold f_X1_addSupersets_b44 at E
  refine qt_iinc 2 (fun v44 => [(2, .int v44), (0, .ref (g.1 + 34)), (1, .int x1)]) dX1_addSupersets_44 rfl ci_1 (Nat.le_of_ble_eq_true rfl) (fun _ => rfl) E (fun v44 E => ?_)
  refine qt_goto 10 dX1_addSupersets_47 (by decide) ?_
  cases E
  exact qt_sub _ [1, 2, 0] rfl (G)
noncomputable def f_X1_addSupersets_b10 (x1 : Int32) (x2 : Int32) (h : qa_M) : Option ((Int32 × Int32 × qa_M) ⊕ ((Int32 × qa_M) ⊕ qa_M)) :=
  if (1024 : Int32) ≤ x2 then (
   qup (f_X1_addSupersets_b50 x1 h))
  else (
   if ((x2 >>> (x1 &&& 31)) &&& (1 : Int32)) = 0 then (
    qck x2 1024 (
    qck (x2 ||| ((1 : Int32) <<< (x1 &&& 31))) 1024 (
    qck x2 1024 (
    qbd (qw_I h 35 x2.toNatClampNeg ((h.1 35 x2.toNatClampNeg) + (h.1 35 (x2 ||| ((1 : Int32) <<< (x1 &&& 31))).toNatClampNeg))) (fun h43 : qa_M =>
    f_X1_addSupersets_b44 x1 x2 h43)))))
   else (
    f_X1_addSupersets_b44 x1 x2 h))
set_option maxRecDepth 20000 in
theorem s_X1_addSupersets_b10 {l : Launch} {g : qa_G} {d : Nat} {rz : Option Value} {hz : qa_M} (x1 : Int32) (x2 : Int32) (h : qa_M) {z : ((Int32 × Int32 × qa_M) ⊕ ((Int32 × qa_M) ⊕ qa_M))} (E : f_X1_addSupersets_b10 x1 x2 h = some z) (G : (Sum.elim (fun (sz : Int32 × Int32 × qa_M) => qt_At l g (yX1_addSupersets, cX1_addSupersets, 3, none) d 0 0 10 [(0, .ref (g.1 + 34)), (1, .int sz.1), (2, .int sz.2.1)] [] sz.2.2 rz hz) (Sum.elim (fun (sz : Int32 × qa_M) => qt_At l g (yX1_addSupersets, cX1_addSupersets, 3, none) d 0 0 2 [(0, .ref (g.1 + 34)), (1, .int sz.1)] [] sz.2 rz hz) (qg_v rz hz))) z) : qt_At l g (yX1_addSupersets, cX1_addSupersets, 3, none) d 0 0 10 [(0, .ref (g.1 + 34)), (1, .int x1), (2, .int x2)] [] h rz hz := by
  unfold f_X1_addSupersets_b10 at E
  refine qt_iload_n 2 dX1_addSupersets_10 rfl rfl ?_
  refine qt_sipush dX1_addSupersets_11 cs_1024 ?_
  refine qt_icmp_ge 50 dX1_addSupersets_14 (by decide) E (fun E => ?_) (fun E => ?_)
  · obtain ⟨z0_, E, G⟩ := qup_g E G
    exact qt_sub _ [0, 1] rfl ((s_X1_addSupersets_b50 x1 h E G))
  · refine qt_iload_n 2 dX1_addSupersets_17 rfl rfl ?_
    refine qt_iload_n 1 dX1_addSupersets_18 rfl rfl ?_
    refine qt_ishr dX1_addSupersets_19 ?_
    refine qt_iconst dX1_addSupersets_20 ci_1 ?_
    refine qt_iand dX1_addSupersets_21 ?_
    refine qt_if_ne 44 dX1_addSupersets_22 (by decide) E (fun E => ?_) (fun E => ?_)
    · exact qt_sub _ [0, 1, 2] rfl ((s_X1_addSupersets_b44 x1 x2 h E G))
    · refine qt_aload_n 0 dX1_addSupersets_25 rfl rfl ?_
      refine qt_getS 35 (wl_34 h) fe_RX1_11 rfl dX1_addSupersets_26 ?_
      refine qt_iload_n 2 dX1_addSupersets_29 rfl rfl ?_
      refine qt_dup2_11 dX1_addSupersets_30 rfl rfl ?_
      refine qt_iald (wl_35 h) dX1_addSupersets_31 E (fun E => ?_)
      refine qt_aload_n 0 dX1_addSupersets_32 rfl rfl ?_
      refine qt_getS 35 (wl_34 h) fe_RX1_11 rfl dX1_addSupersets_33 ?_
      refine qt_iload_n 2 dX1_addSupersets_36 rfl rfl ?_
      refine qt_iconst dX1_addSupersets_37 ci_1 ?_
      refine qt_iload_n 1 dX1_addSupersets_38 rfl rfl ?_
      refine qt_ishl dX1_addSupersets_39 ?_
      refine qt_ior dX1_addSupersets_40 ?_
      refine qt_iald (wl_35 h) dX1_addSupersets_41 E (fun E => ?_)
      refine qt_iadd dX1_addSupersets_42 ?_
      refine qt_iast (wl_35 h) dX1_addSupersets_43 E (fun h43 E => ?_)
      exact qt_sub _ [0, 1, 2] rfl ((s_X1_addSupersets_b44 x1 x2 h43 E G))
noncomputable def f_X1_addSupersets_b10_loop (x1 : Int32) (x2 : Int32) (h : qa_M) : Option ((Int32 × qa_M) ⊕ qa_M) := qlp (fun sz : Int32 × Int32 × qa_M => f_X1_addSupersets_b10 sz.1 sz.2.1 sz.2.2) (x1, x2, h)
theorem s_X1_addSupersets_b10_loop {l : Launch} {g : qa_G} {d : Nat} {rz : Option Value} {hz : qa_M} (x1 : Int32) (x2 : Int32) (h : qa_M) {z : ((Int32 × qa_M) ⊕ qa_M)} (E : f_X1_addSupersets_b10_loop x1 x2 h = some z) (G : (Sum.elim (fun (sz : Int32 × qa_M) => qt_At l g (yX1_addSupersets, cX1_addSupersets, 3, none) d 0 0 2 [(0, .ref (g.1 + 34)), (1, .int sz.1)] [] sz.2 rz hz) (qg_v rz hz)) z) : qt_At l g (yX1_addSupersets, cX1_addSupersets, 3, none) d 0 0 10 [(0, .ref (g.1 + 34)), (1, .int x1), (2, .int x2)] [] h rz hz :=
  qlp_ind (fun sz : Int32 × Int32 × qa_M => qt_At l g (yX1_addSupersets, cX1_addSupersets, 3, none) d 0 0 10 [(0, .ref (g.1 + 34)), (1, .int sz.1), (2, .int sz.2.1)] [] sz.2.2 rz hz) (fun sz E => s_X1_addSupersets_b10 sz.1 sz.2.1 sz.2.2 E G) (fun sz sz2 E ih => s_X1_addSupersets_b10 sz.1 sz.2.1 sz.2.2 E ih) (x1, x2, h) E
noncomputable def f_X1_addSupersets_b2 (x1 : Int32) (h : qa_M) : Option ((Int32 × qa_M) ⊕ qa_M) :=
  if (10 : Int32) ≤ x1 then (
   qup (some h))
  else (
   qbd (0 : Int32) (fun v9 : Int32 =>
   f_X1_addSupersets_b10_loop x1 v9 h))
set_option maxRecDepth 20000 in
theorem s_X1_addSupersets_b2 {l : Launch} {g : qa_G} {d : Nat} {rz : Option Value} {hz : qa_M} (x1 : Int32) (h : qa_M) {z : ((Int32 × qa_M) ⊕ qa_M)} (E : f_X1_addSupersets_b2 x1 h = some z) (G : (Sum.elim (fun (sz : Int32 × qa_M) => qt_At l g (yX1_addSupersets, cX1_addSupersets, 3, none) d 0 0 2 [(0, .ref (g.1 + 34)), (1, .int sz.1)] [] sz.2 rz hz) (qg_v rz hz)) z) : qt_At l g (yX1_addSupersets, cX1_addSupersets, 3, none) d 0 0 2 [(0, .ref (g.1 + 34)), (1, .int x1)] [] h rz hz := by
  unfold f_X1_addSupersets_b2 at E
  refine qt_iload_n 1 dX1_addSupersets_2 rfl rfl ?_
  refine qt_bipush dX1_addSupersets_3 cb_10 ?_
  refine qt_icmp_ge 56 dX1_addSupersets_5 (by decide) E (fun E => ?_) (fun E => ?_)
  · obtain ⟨z0_, E, G⟩ := qup_g E G
    exact qt_vreturn rfl (Nat.le_of_ble_eq_true rfl) dX1_addSupersets_56 E G
  · refine qt_iconst dX1_addSupersets_8 ci_0 ?_
    refine qt_istore_n (fun v9 => [(2, .int v9), (0, .ref (g.1 + 34)), (1, .int x1)]) dX1_addSupersets_9 rfl (Nat.le_of_ble_eq_true rfl) (fun _ => rfl) E (fun v9 E => ?_)
    exact qt_sub _ [1, 2, 0] rfl ((s_X1_addSupersets_b10_loop x1 v9 h E G))
noncomputable def f_X1_addSupersets_b2_loop (x1 : Int32) (h : qa_M) : Option qa_M := qlp (fun sz : Int32 × qa_M => f_X1_addSupersets_b2 sz.1 sz.2) (x1, h)
theorem s_X1_addSupersets_b2_loop {l : Launch} {g : qa_G} {d : Nat} {rz : Option Value} {hz : qa_M} (x1 : Int32) (h : qa_M) {z : qa_M} (E : f_X1_addSupersets_b2_loop x1 h = some z) (G : (qg_v rz hz) z) : qt_At l g (yX1_addSupersets, cX1_addSupersets, 3, none) d 0 0 2 [(0, .ref (g.1 + 34)), (1, .int x1)] [] h rz hz :=
  qlp_ind (fun sz : Int32 × qa_M => qt_At l g (yX1_addSupersets, cX1_addSupersets, 3, none) d 0 0 2 [(0, .ref (g.1 + 34)), (1, .int sz.1)] [] sz.2 rz hz) (fun sz E => s_X1_addSupersets_b2 sz.1 sz.2 E G) (fun sz sz2 E ih => s_X1_addSupersets_b2 sz.1 sz.2 E ih) (x1, h) E
noncomputable def m_X1_addSupersets (h : qa_M) : Option qa_M :=
  qbd (0 : Int32) (fun v1 : Int32 =>
  f_X1_addSupersets_b2_loop v1 h)
set_option maxRecDepth 20000 in
theorem c_X1_addSupersets {l : Launch} {g : qa_G} {d : Nat} (h : qa_M) {h1 : qa_M} (E : m_X1_addSupersets h = some h1) : qt_Met l g (yX1_addSupersets, cX1_addSupersets, 3, none) d 0 [.ref (g.1 + 34)] h none h1 := by
  refine qt_Met.of (plainFor_of_name (by decide)) (Nat.le_of_ble_eq_true rfl) ?_
  have G : qg_v none h1 (h1) := ⟨rfl, rfl⟩
  unfold m_X1_addSupersets at E
  refine qt_iconst dX1_addSupersets_0 ci_0 ?_
  refine qt_istore_n (fun v1 => [(1, .int v1), (0, .ref (g.1 + 34))]) dX1_addSupersets_1 rfl (Nat.le_of_ble_eq_true rfl) (fun _ => rfl) E (fun v1 E => ?_)
  exact qt_sub _ [1, 0] rfl ((s_X1_addSupersets_b2_loop v1 h E G))
noncomputable def f_X1_fill_b68 (h : qa_M) : Option qa_M :=
  qbv (m_X1_addSupersets h) (fun h69 : qa_M =>
  some h69)
set_option maxRecDepth 20000 in
theorem s_X1_fill_b68 {l : Launch} {g : qa_G} {d : Nat} {rz : Option Value} {hz : qa_M} (h : qa_M) {z : qa_M} (E : f_X1_fill_b68 h = some z) (G : (qg_v rz hz) z) : qt_At l g (yX1_fill, cX1_fill, 5, none) (d + 4) 0 0 68 [(0, .ref (g.1 + 34))] [] h rz hz := by
  unfold f_X1_fill_b68 at E
  refine qt_aload_n 0 dX1_fill_68 rfl rfl ?_
  obtain ⟨h69, e69, E⟩ := qbv_el E
  refine qt_callVv (b2 := 0) [] (c_X1_addSupersets h e69) cv_RX1_64 (wl_34 h) rfl rfl rfl (Nat.le_of_ble_eq_true rfl) (Nat.le_of_ble_eq_true rfl) dX1_fill_69 ?_
  exact qt_vreturn rfl (Nat.le_of_ble_eq_true rfl) dX1_fill_72 E G
noncomputable def f_X1_fill_b43 (x4 : Int32) (h : qa_M) : Option ((Int32 × qa_M) ⊕ qa_M) :=
  if (2000000 : Int32) ≤ x4 then (
   qup (f_X1_fill_b68 h))
  else (
   qbn (m_X7_step h) (fun (c51 : Int32) (h51 : qa_M) =>
   if c51 = 0 then (
    qup (f_X1_fill_b68 h51))
   else (
    qbv (m_X1_countLayings h51) (fun h59 : qa_M =>
    qbd (x4 + (1 : Int32)) (fun v62 : Int32 =>
    some (.inl (v62, h59)))))))
set_option maxRecDepth 20000 in
theorem s_X1_fill_b43 {l : Launch} {g : qa_G} {d : Nat} {rz : Option Value} {hz : qa_M} (x4 : Int32) (h : qa_M) {z : ((Int32 × qa_M) ⊕ qa_M)} (E : f_X1_fill_b43 x4 h = some z) (G : (Sum.elim (fun (sz : Int32 × qa_M) => qt_At l g (yX1_fill, cX1_fill, 5, none) (d + 4) 0 0 43 [(0, .ref (g.1 + 34)), (1, .ref (g.1 + 22)), (4, .int sz.1)] [] sz.2 rz hz) (qg_v rz hz)) z) : qt_At l g (yX1_fill, cX1_fill, 5, none) (d + 4) 0 0 43 [(0, .ref (g.1 + 34)), (1, .ref (g.1 + 22)), (4, .int x4)] [] h rz hz := by
  unfold f_X1_fill_b43 at E
  refine qt_iload 2 dX1_fill_43 rfl ?_
  refine qt_ldc tb_1109 dX1_fill_45 ?_
  refine qt_icmp_ge 68 dX1_fill_47 (by decide) E (fun E => ?_) (fun E => ?_)
  · obtain ⟨z0_, E, G⟩ := qup_g E G
    exact qt_sub _ [0] rfl ((s_X1_fill_b68 h E G))
  · refine qt_aload_n 1 dX1_fill_50 rfl rfl ?_
    obtain ⟨c51, h51, e51, E⟩ := qbn_el E
    refine qt_callVi (b2 := 0) [] (c_X7_step h e51) cv_RX1_56 (wl_22 h) rfl rfl rfl (Nat.le_of_ble_eq_true rfl) (Nat.le_of_ble_eq_true rfl) dX1_fill_51 ?_
    refine qt_if_eq 68 dX1_fill_54 (by decide) E (fun E => ?_) (fun E => ?_)
    · obtain ⟨z0_, E, G⟩ := qup_g E G
      exact qt_sub _ [0] rfl ((s_X1_fill_b68 h51 E G))
    · refine qt_aload_n 0 dX1_fill_57 rfl rfl ?_
      refine qt_aload_n 1 dX1_fill_58 rfl rfl ?_
      obtain ⟨h59, e59, E⟩ := qbv_el E
      refine qt_callVv (b2 := 0) [.ref (g.1 + 22)] (c_X1_countLayings h51 e59) cv_RX1_60 (wl_34 h51) rfl rfl rfl (Nat.le_of_ble_eq_true rfl) (Nat.le_of_ble_eq_true rfl) dX1_fill_59 ?_
      refine qt_iinc 2 (fun v62 => [(4, .int v62), (0, .ref (g.1 + 34)), (1, .ref (g.1 + 22))]) dX1_fill_62 rfl ci_1 (Nat.le_of_ble_eq_true rfl) (fun _ => rfl) E (fun v62 E => ?_)
      refine qt_goto 43 dX1_fill_65 (by decide) ?_
      cases E
      exact qt_sub _ [1, 2, 0] rfl (G)
noncomputable def f_X1_fill_b43_loop (x4 : Int32) (h : qa_M) : Option qa_M := qlp (fun sz : Int32 × qa_M => f_X1_fill_b43 sz.1 sz.2) (x4, h)
theorem s_X1_fill_b43_loop {l : Launch} {g : qa_G} {d : Nat} {rz : Option Value} {hz : qa_M} (x4 : Int32) (h : qa_M) {z : qa_M} (E : f_X1_fill_b43_loop x4 h = some z) (G : (qg_v rz hz) z) : qt_At l g (yX1_fill, cX1_fill, 5, none) (d + 4) 0 0 43 [(0, .ref (g.1 + 34)), (1, .ref (g.1 + 22)), (4, .int x4)] [] h rz hz :=
  qlp_ind (fun sz : Int32 × qa_M => qt_At l g (yX1_fill, cX1_fill, 5, none) (d + 4) 0 0 43 [(0, .ref (g.1 + 34)), (1, .ref (g.1 + 22)), (4, .int sz.1)] [] sz.2 rz hz) (fun sz E => s_X1_fill_b43 sz.1 sz.2 E G) (fun sz sz2 E ih => s_X1_fill_b43 sz.1 sz.2 E ih) (x4, h) E
noncomputable def m_X1_fill (x3 : Int32) (h : qa_M) : Option qa_M :=
  if (h.1 34 0) = x3 then (
   some h)
  else (
   qbd (qw_I h 34 0 x3) (fun h11 : qa_M =>
   qbv (m_X1_sortNotes h11) (fun h16 : qa_M =>
   qbv (m_J7_fill_53178 35 (0 : Int32) h16) (fun h24 : qa_M =>
   qbv (m_X7_start (0 : Int32) h24) (fun h29 : qa_M =>
   qbn (m_X7_lastSort h29) (fun (c34 : Int32) (h34 : qa_M) =>
   qbv (m_X1_groupSquares c34 h34) (fun h37 : qa_M =>
   qbd (0 : Int32) (fun v41 : Int32 =>
   f_X1_fill_b43_loop v41 h37))))))))
set_option maxRecDepth 20000 in
theorem c_X1_fill {l : Launch} {g : qa_G} {d : Nat} (x3 : Int32) (h : qa_M) {h1 : qa_M} (E : m_X1_fill x3 h = some h1) : qt_Met l g (yX1_fill, cX1_fill, 5, none) (d + 4) 0 [.ref (g.1 + 34), .ref (g.1 + 22), .ref (g.1 + 3), .int x3] h none h1 := by
  refine qt_Met.of (plainFor_of_name (by decide)) (Nat.le_of_ble_eq_true rfl) ?_
  have G : qg_v none h1 (h1) := ⟨rfl, rfl⟩
  unfold m_X1_fill at E
  refine qt_aload_n 0 dX1_fill_0 rfl rfl ?_
  refine qt_getI (wl_34 h) fe_RX1_28 rfl dX1_fill_1 ?_
  refine qt_iload_n 3 dX1_fill_4 rfl rfl ?_
  refine qt_icmp_ne 9 dX1_fill_5 (by decide) E (fun E => ?_) (fun E => ?_)
  · refine qt_aload_n 0 dX1_fill_9 rfl rfl ?_
    refine qt_iload_n 3 dX1_fill_10 rfl rfl ?_
    refine qt_putI (wl_34 h) fd_RX1_28 rfl rfl rfl dX1_fill_11 E (fun h11 E => ?_)
    refine qt_aload_n 0 dX1_fill_14 rfl rfl ?_
    refine qt_aload_n 2 dX1_fill_15 rfl rfl ?_
    obtain ⟨h16, e16, E⟩ := qbv_el E
    refine qt_callVv (b2 := 0) [.ref (g.1 + 3)] (c_X1_sortNotes h11 e16) cv_RX1_32 (wl_34 h11) rfl rfl rfl (Nat.le_of_ble_eq_true rfl) (Nat.le_of_ble_eq_true rfl) dX1_fill_16 ?_
    refine qt_aload_n 0 dX1_fill_19 rfl rfl ?_
    refine qt_getS 35 (wl_34 h16) fe_RX1_11 rfl dX1_fill_20 ?_
    refine qt_iconst dX1_fill_23 ci_0 ?_
    obtain ⟨h24, e24, E⟩ := qbv_el E
    refine qt_callSv (b2 := 0) [.ref (g.1 + 35), .int (0 : Int32)] (c_J7_fill_53178 35 (0 : Int32) h16 e24) cv_RX1_36 rfl (Nat.le_of_ble_eq_true rfl) (Nat.le_of_ble_eq_true rfl) dX1_fill_24 ?_
    refine qt_aload_n 1 dX1_fill_27 rfl rfl ?_
    refine qt_iconst dX1_fill_28 ci_0 ?_
    obtain ⟨h29, e29, E⟩ := qbv_el E
    refine qt_callVv (b2 := 0) [.int (0 : Int32)] (c_X7_start (0 : Int32) h24 e29) cv_RX1_42 (wl_22 h24) rfl rfl rfl (Nat.le_of_ble_eq_true rfl) (Nat.le_of_ble_eq_true rfl) dX1_fill_29 ?_
    refine qt_aload_n 0 dX1_fill_32 rfl rfl ?_
    refine qt_aload_n 1 dX1_fill_33 rfl rfl ?_
    obtain ⟨c34, h34, e34, E⟩ := qbn_el E
    refine qt_callVi (b2 := 0) [] (c_X7_lastSort h29 e34) cv_RX1_48 (wl_22 h29) rfl rfl rfl (Nat.le_of_ble_eq_true rfl) (Nat.le_of_ble_eq_true rfl) dX1_fill_34 ?_
    obtain ⟨h37, e37, E⟩ := qbv_el E
    refine qt_callVv (b2 := 0) [.int c34] (c_X1_groupSquares c34 h34 e37) cv_RX1_52 (wl_34 h34) rfl rfl rfl (Nat.le_of_ble_eq_true rfl) (Nat.le_of_ble_eq_true rfl) dX1_fill_37 ?_
    refine qt_iconst dX1_fill_40 ci_0 ?_
    refine qt_istore (fun v41 => [(4, .int v41), (0, .ref (g.1 + 34)), (1, .ref (g.1 + 22)), (2, .ref (g.1 + 3)), (3, .int x3)]) dX1_fill_41 (Nat.le_of_ble_eq_true rfl) (fun _ => rfl) E (fun v41 E => ?_)
    exact qt_sub _ [1, 2, 0] rfl ((s_X1_fill_b43_loop v41 h37 E G))
  · exact qt_vreturn rfl (Nat.le_of_ble_eq_true rfl) dX1_fill_8 E G
noncomputable def m_X11_countAllSets (h : qa_M) : Option qa_M :=
  qbv (m_X11_prepare h) (fun h1 : qa_M =>
  qbv (m_X1_fill (h1.1 0 13) h1) (fun h20 : qa_M =>
  some h20))
set_option maxRecDepth 20000 in
theorem c_X11_countAllSets {l : Launch} {g : qa_G} {d : Nat} (h : qa_M) {h1 : qa_M} (E : m_X11_countAllSets h = some h1) : qt_Met l g (yX11_countAllSets, cX11_countAllSets, 1, none) (d + 6) 0 [.ref (g.1 + 0)] h none h1 := by
  refine qt_Met.of (plainFor_of_name (by decide)) (Nat.le_of_ble_eq_true rfl) ?_
  have G : qg_v none h1 (h1) := ⟨rfl, rfl⟩
  unfold m_X11_countAllSets at E
  refine qt_aload_n 0 dX11_countAllSets_0 rfl rfl ?_
  obtain ⟨h1, e1, E⟩ := qbv_el E
  refine qt_callVv (b2 := 0) [] (c_X11_prepare h e1) cv_RX11_164 (wl_0 h) rfl rfl rfl (Nat.le_of_ble_eq_true rfl) (Nat.le_of_ble_eq_true rfl) dX11_countAllSets_1 ?_
  refine qt_aload_n 0 dX11_countAllSets_4 rfl rfl ?_
  refine qt_getS 34 (wl_0 h1) fe_RX11_74 rfl dX11_countAllSets_5 ?_
  refine qt_aload_n 0 dX11_countAllSets_8 rfl rfl ?_
  refine qt_getS 22 (wl_0 h1) fe_RX11_67 rfl dX11_countAllSets_9 ?_
  refine qt_aload_n 0 dX11_countAllSets_12 rfl rfl ?_
  refine qt_getS 3 (wl_0 h1) fe_RX11_19 rfl dX11_countAllSets_13 ?_
  refine qt_aload_n 0 dX11_countAllSets_16 rfl rfl ?_
  refine qt_getI (wl_0 h1) fe_RX11_92 rfl dX11_countAllSets_17 ?_
  obtain ⟨h20, e20, E⟩ := qbv_el E
  refine qt_callVv (b2 := 0) [.ref (g.1 + 22), .ref (g.1 + 3), .int (h1.1 0 13)] (c_X1_fill (h1.1 0 13) h1 e20) cv_RX11_291 (wl_34 h1) rfl rfl rfl (Nat.le_of_ble_eq_true rfl) (Nat.le_of_ble_eq_true rfl) dX11_countAllSets_20 ?_
  exact qt_vreturn rfl (Nat.le_of_ble_eq_true rfl) dX11_countAllSets_23 E G
noncomputable def m_J6_bitCount_0f7a4 (x0 : Int32) (h : qa_M) : Option (Int32 × qa_M) :=
  qbd (x0 - ((q_iushr x0 (1 : Int32)) &&& (1431655765 : Int32))) (fun v9 : Int32 =>
  qbd ((v9 &&& (858993459 : Int32)) + ((q_iushr v9 (2 : Int32)) &&& (858993459 : Int32))) (fun v23 : Int32 =>
  qbd ((v23 + (q_iushr v23 (4 : Int32))) &&& (252645135 : Int32)) (fun v33 : Int32 =>
  qbd (v33 + (q_iushr v33 (8 : Int32))) (fun v40 : Int32 =>
  qbd (v40 + (q_iushr v40 (16 : Int32))) (fun v47 : Int32 =>
  some ((v47 &&& (63 : Int32)), h))))))
set_option maxRecDepth 20000 in
theorem c_J6_bitCount_0f7a4 {l : Launch} {g : qa_G} {d : Nat} (x0 : Int32) (h : qa_M) {c : Int32} {h1 : qa_M} (E : m_J6_bitCount_0f7a4 x0 h = some (c, h1)) : qt_Met l g (yJ6_bitCount_0f7a4, cJ6_bitCount_0f7a4, 1, (some .int)) d 0 [.int x0] h (some (.int c)) h1 := by
  refine qt_Met.of (plainFor_of_name (by decide)) (Nat.le_of_ble_eq_true rfl) ?_
  have G : qg_i (some (.int c)) h1 ((c, h1)) := ⟨rfl, rfl⟩
  unfold m_J6_bitCount_0f7a4 at E
  refine qt_iload_n 0 dJ6_bitCount_0f7a4_0 rfl rfl ?_
  refine qt_iload_n 0 dJ6_bitCount_0f7a4_1 rfl rfl ?_
  refine qt_iconst dJ6_bitCount_0f7a4_2 ci_1 ?_
  refine qt_iushr dJ6_bitCount_0f7a4_3 ?_
  refine qt_ldcw tb_1146 dJ6_bitCount_0f7a4_4 ?_
  refine qt_iand dJ6_bitCount_0f7a4_7 ?_
  refine qt_isub dJ6_bitCount_0f7a4_8 ?_
  refine qt_istore_n (fun v9 => [(0, .int v9)]) dJ6_bitCount_0f7a4_9 rfl (Nat.le_of_ble_eq_true rfl) (fun _ => rfl) E (fun v9 E => ?_)
  refine qt_iload_n 0 dJ6_bitCount_0f7a4_10 rfl rfl ?_
  refine qt_ldcw tb_1147 dJ6_bitCount_0f7a4_11 ?_
  refine qt_iand dJ6_bitCount_0f7a4_14 ?_
  refine qt_iload_n 0 dJ6_bitCount_0f7a4_15 rfl rfl ?_
  refine qt_iconst dJ6_bitCount_0f7a4_16 ci_2 ?_
  refine qt_iushr dJ6_bitCount_0f7a4_17 ?_
  refine qt_ldcw tb_1147 dJ6_bitCount_0f7a4_18 ?_
  refine qt_iand dJ6_bitCount_0f7a4_21 ?_
  refine qt_iadd dJ6_bitCount_0f7a4_22 ?_
  refine qt_istore_n (fun v23 => [(0, .int v23)]) dJ6_bitCount_0f7a4_23 rfl (Nat.le_of_ble_eq_true rfl) (fun _ => rfl) E (fun v23 E => ?_)
  refine qt_iload_n 0 dJ6_bitCount_0f7a4_24 rfl rfl ?_
  refine qt_iload_n 0 dJ6_bitCount_0f7a4_25 rfl rfl ?_
  refine qt_iconst dJ6_bitCount_0f7a4_26 ci_4 ?_
  refine qt_iushr dJ6_bitCount_0f7a4_27 ?_
  refine qt_iadd dJ6_bitCount_0f7a4_28 ?_
  refine qt_ldcw tb_1148 dJ6_bitCount_0f7a4_29 ?_
  refine qt_iand dJ6_bitCount_0f7a4_32 ?_
  refine qt_istore_n (fun v33 => [(0, .int v33)]) dJ6_bitCount_0f7a4_33 rfl (Nat.le_of_ble_eq_true rfl) (fun _ => rfl) E (fun v33 E => ?_)
  refine qt_iload_n 0 dJ6_bitCount_0f7a4_34 rfl rfl ?_
  refine qt_iload_n 0 dJ6_bitCount_0f7a4_35 rfl rfl ?_
  refine qt_bipush dJ6_bitCount_0f7a4_36 cb_8 ?_
  refine qt_iushr dJ6_bitCount_0f7a4_38 ?_
  refine qt_iadd dJ6_bitCount_0f7a4_39 ?_
  refine qt_istore_n (fun v40 => [(0, .int v40)]) dJ6_bitCount_0f7a4_40 rfl (Nat.le_of_ble_eq_true rfl) (fun _ => rfl) E (fun v40 E => ?_)
  refine qt_iload_n 0 dJ6_bitCount_0f7a4_41 rfl rfl ?_
  refine qt_iload_n 0 dJ6_bitCount_0f7a4_42 rfl rfl ?_
  refine qt_bipush dJ6_bitCount_0f7a4_43 cb_16 ?_
  refine qt_iushr dJ6_bitCount_0f7a4_45 ?_
  refine qt_iadd dJ6_bitCount_0f7a4_46 ?_
  refine qt_istore_n (fun v47 => [(0, .int v47)]) dJ6_bitCount_0f7a4_47 rfl (Nat.le_of_ble_eq_true rfl) (fun _ => rfl) E (fun v47 E => ?_)
  refine qt_iload_n 0 dJ6_bitCount_0f7a4_48 rfl rfl ?_
  refine qt_bipush dJ6_bitCount_0f7a4_49 cb_63 ?_
  refine qt_iand dJ6_bitCount_0f7a4_51 ?_
  exact qt_ireturn rfl (Nat.le_of_ble_eq_true rfl) dJ6_bitCount_0f7a4_52 E G
noncomputable def f_X1_isFewer_b15 (h : qa_M) : Option (Int32 × qa_M) :=
  some ((1 : Int32), h)
set_option maxRecDepth 20000 in
theorem s_X1_isFewer_b15 {l : Launch} {g : qa_G} {d : Nat} {rz : Option Value} {hz : qa_M} (h : qa_M) {z : (Int32 × qa_M)} (E : f_X1_isFewer_b15 h = some z) (G : (qg_i rz hz) z) : qt_At l g (yX1_isFewer, cX1_isFewer, 2, (some .boolean)) (d + 1) 0 0 15 [] [] h rz hz := by
  unfold f_X1_isFewer_b15 at E
  refine qt_iconst dX1_isFewer_15 ci_1 ?_
  refine qt_goto 20 dX1_isFewer_16 (by decide) ?_
  exact qt_zreturn rfl (Or.inr rfl) (Nat.le_of_ble_eq_true rfl) dX1_isFewer_20 E G
noncomputable def m_X1_isFewer (x0 : Int32) (x1 : Int32) (h : qa_M) : Option (Int32 × qa_M) :=
  if x1 < 0 then (
   f_X1_isFewer_b15 h)
  else (
   qbn (m_J6_bitCount_0f7a4 x0 h) (fun (c5 : Int32) (h5 : qa_M) =>
   qbn (m_J6_bitCount_0f7a4 x1 h5) (fun (c9 : Int32) (h9 : qa_M) =>
   if c9 ≤ c5 then (
    some ((0 : Int32), h9))
   else (
    f_X1_isFewer_b15 h9))))
set_option maxRecDepth 20000 in
theorem c_X1_isFewer {l : Launch} {g : qa_G} {d : Nat} (x0 : Int32) (x1 : Int32) (h : qa_M) {c : Int32} {h1 : qa_M} (E : m_X1_isFewer x0 x1 h = some (c, h1)) : qt_Met l g (yX1_isFewer, cX1_isFewer, 2, (some .boolean)) (d + 1) 0 [.int x0, .int x1] h (some (.int c)) h1 := by
  refine qt_Met.of (plainFor_of_name (by decide)) (Nat.le_of_ble_eq_true rfl) ?_
  have G : qg_i (some (.int c)) h1 ((c, h1)) := ⟨rfl, rfl⟩
  unfold m_X1_isFewer at E
  refine qt_iload_n 1 dX1_isFewer_0 rfl rfl ?_
  refine qt_if_lt 15 dX1_isFewer_1 (by decide) E (fun E => ?_) (fun E => ?_)
  · exact qt_sub _ [] rfl ((s_X1_isFewer_b15 h E G))
  · refine qt_iload_n 0 dX1_isFewer_4 rfl rfl ?_
    obtain ⟨c5, h5, e5, E⟩ := qbn_el E
    refine qt_callSi (b2 := 0) [.int x0] (c_J6_bitCount_0f7a4 x0 h e5) cv_RX1_122 rfl (Nat.le_of_ble_eq_true rfl) (Nat.le_of_ble_eq_true rfl) dX1_isFewer_5 ?_
    refine qt_iload_n 1 dX1_isFewer_8 rfl rfl ?_
    obtain ⟨c9, h9, e9, E⟩ := qbn_el E
    refine qt_callSi (b2 := 0) [.int x1] (c_J6_bitCount_0f7a4 x1 h5 e9) cv_RX1_122 rfl (Nat.le_of_ble_eq_true rfl) (Nat.le_of_ble_eq_true rfl) dX1_isFewer_9 ?_
    refine qt_icmp_ge 19 dX1_isFewer_12 (by decide) E (fun E => ?_) (fun E => ?_)
    · refine qt_iconst dX1_isFewer_19 ci_0 ?_
      exact qt_zreturn rfl (Or.inl rfl) (Nat.le_of_ble_eq_true rfl) dX1_isFewer_20 E G
    · exact qt_sub _ [] rfl ((s_X1_isFewer_b15 h9 E G))
noncomputable def f_X1_fewestThatSayAsMuch_b42 (x1 : Int32) (x2 : Int32) (x3 : Int32) (h : qa_M) : Option ((Int32 × Int32 × Int32 × qa_M) ⊕ (Int32 × qa_M)) :=
  qbd (x3 + (1 : Int32)) (fun v42 : Int32 =>
  some (.inl (x1, x2, v42, h)))
set_option maxRecDepth 20000 in
theorem s_X1_fewestThatSayAsMuch_b42 {l : Launch} {g : qa_G} {d : Nat} {rz : Option Value} {hz : qa_M} (x1 : Int32) (x2 : Int32) (x3 : Int32) (h : qa_M) {z : ((Int32 × Int32 × Int32 × qa_M) ⊕ (Int32 × qa_M))} (E : f_X1_fewestThatSayAsMuch_b42 x1 x2 x3 h = some z) (G : (Sum.elim (fun (sz : Int32 × Int32 × Int32 × qa_M) => qt_At l g (yX1_fewestThatSayAsMuch, cX1_fewestThatSayAsMuch, 4, (some .int)) (d + 2) 0 0 4 [(0, .ref (g.1 + 34)), (1, .int sz.1), (2, .int sz.2.1), (3, .int sz.2.2.1)] [] sz.2.2.2 rz hz) (qg_i rz hz)) z) : qt_At l g (yX1_fewestThatSayAsMuch, cX1_fewestThatSayAsMuch, 4, (some .int)) (d + 2) 0 0 42 [(0, .ref (g.1 + 34)), (1, .int x1), (2, .int x2), (3, .int x3)] [] h rz hz := by
  unfold f_X1_fewestThatSayAsMuch_b42 at E
  refine qt_iinc 3 (fun v42 => [(3, .int v42), (0, .ref (g.1 + 34)), (1, .int x1), (2, .int x2)]) dX1_fewestThatSayAsMuch_42 rfl ci_1 (Nat.le_of_ble_eq_true rfl) (fun _ => rfl) E (fun v42 E => ?_)
  refine qt_goto 4 dX1_fewestThatSayAsMuch_45 (by decide) ?_
  cases E
  exact qt_sub _ [1, 2, 3, 0] rfl (G)
noncomputable def f_X1_fewestThatSayAsMuch_b4 (x1 : Int32) (x2 : Int32) (x3 : Int32) (h : qa_M) : Option ((Int32 × Int32 × Int32 × qa_M) ⊕ (Int32 × qa_M)) :=
  if x1 ≤ x3 then (
   qup (some (x2, h)))
  else (
   if (x3 &&& (x1 ^^^ (-1 : Int32))) = 0 then (
    qck x3 1024 (
    qck x1 1024 (
    if (h.1 35 x3.toNatClampNeg) = (h.1 35 x1.toNatClampNeg) then (
     qbn (m_X1_isFewer x3 x2 h) (fun (c34 : Int32) (h34 : qa_M) =>
     if c34 = 0 then (
      f_X1_fewestThatSayAsMuch_b42 x1 x2 x3 h34)
     else (
      qbd x3 (fun v41 : Int32 =>
      f_X1_fewestThatSayAsMuch_b42 x1 v41 x3 h34))))
    else (
     f_X1_fewestThatSayAsMuch_b42 x1 x2 x3 h))))
   else (
    f_X1_fewestThatSayAsMuch_b42 x1 x2 x3 h))
set_option maxRecDepth 20000 in
theorem s_X1_fewestThatSayAsMuch_b4 {l : Launch} {g : qa_G} {d : Nat} {rz : Option Value} {hz : qa_M} (x1 : Int32) (x2 : Int32) (x3 : Int32) (h : qa_M) {z : ((Int32 × Int32 × Int32 × qa_M) ⊕ (Int32 × qa_M))} (E : f_X1_fewestThatSayAsMuch_b4 x1 x2 x3 h = some z) (G : (Sum.elim (fun (sz : Int32 × Int32 × Int32 × qa_M) => qt_At l g (yX1_fewestThatSayAsMuch, cX1_fewestThatSayAsMuch, 4, (some .int)) (d + 2) 0 0 4 [(0, .ref (g.1 + 34)), (1, .int sz.1), (2, .int sz.2.1), (3, .int sz.2.2.1)] [] sz.2.2.2 rz hz) (qg_i rz hz)) z) : qt_At l g (yX1_fewestThatSayAsMuch, cX1_fewestThatSayAsMuch, 4, (some .int)) (d + 2) 0 0 4 [(0, .ref (g.1 + 34)), (1, .int x1), (2, .int x2), (3, .int x3)] [] h rz hz := by
  unfold f_X1_fewestThatSayAsMuch_b4 at E
  refine qt_iload_n 3 dX1_fewestThatSayAsMuch_4 rfl rfl ?_
  refine qt_iload_n 1 dX1_fewestThatSayAsMuch_5 rfl rfl ?_
  refine qt_icmp_ge 48 dX1_fewestThatSayAsMuch_6 (by decide) E (fun E => ?_) (fun E => ?_)
  · refine qt_iload_n 2 dX1_fewestThatSayAsMuch_48 rfl rfl ?_
    obtain ⟨z0_, E, G⟩ := qup_g E G
    exact qt_ireturn rfl (Nat.le_of_ble_eq_true rfl) dX1_fewestThatSayAsMuch_49 E G
  · refine qt_iload_n 3 dX1_fewestThatSayAsMuch_9 rfl rfl ?_
    refine qt_iload_n 1 dX1_fewestThatSayAsMuch_10 rfl rfl ?_
    refine qt_iconst dX1_fewestThatSayAsMuch_11 ci_m1 ?_
    refine qt_ixor dX1_fewestThatSayAsMuch_12 ?_
    refine qt_iand dX1_fewestThatSayAsMuch_13 ?_
    refine qt_if_ne 42 dX1_fewestThatSayAsMuch_14 (by decide) E (fun E => ?_) (fun E => ?_)
    · exact qt_sub _ [0, 1, 2, 3] rfl ((s_X1_fewestThatSayAsMuch_b42 x1 x2 x3 h E G))
    · refine qt_aload_n 0 dX1_fewestThatSayAsMuch_17 rfl rfl ?_
      refine qt_getS 35 (wl_34 h) fe_RX1_11 rfl dX1_fewestThatSayAsMuch_18 ?_
      refine qt_iload_n 3 dX1_fewestThatSayAsMuch_21 rfl rfl ?_
      refine qt_iald (wl_35 h) dX1_fewestThatSayAsMuch_22 E (fun E => ?_)
      refine qt_aload_n 0 dX1_fewestThatSayAsMuch_23 rfl rfl ?_
      refine qt_getS 35 (wl_34 h) fe_RX1_11 rfl dX1_fewestThatSayAsMuch_24 ?_
      refine qt_iload_n 1 dX1_fewestThatSayAsMuch_27 rfl rfl ?_
      refine qt_iald (wl_35 h) dX1_fewestThatSayAsMuch_28 E (fun E => ?_)
      refine qt_icmp_ne 42 dX1_fewestThatSayAsMuch_29 (by decide) E (fun E => ?_) (fun E => ?_)
      · exact qt_sub _ [0, 1, 2, 3] rfl ((s_X1_fewestThatSayAsMuch_b42 x1 x2 x3 h E G))
      · refine qt_iload_n 3 dX1_fewestThatSayAsMuch_32 rfl rfl ?_
        refine qt_iload_n 2 dX1_fewestThatSayAsMuch_33 rfl rfl ?_
        obtain ⟨c34, h34, e34, E⟩ := qbn_el E
        refine qt_callSi (b2 := 0) [.int x3, .int x2] (c_X1_isFewer x3 x2 h e34) cv_RX1_111 rfl (Nat.le_of_ble_eq_true rfl) (Nat.le_of_ble_eq_true rfl) dX1_fewestThatSayAsMuch_34 ?_
        refine qt_if_eq 42 dX1_fewestThatSayAsMuch_37 (by decide) E (fun E => ?_) (fun E => ?_)
        · exact qt_sub _ [0, 1, 2, 3] rfl ((s_X1_fewestThatSayAsMuch_b42 x1 x2 x3 h34 E G))
        · refine qt_iload_n 3 dX1_fewestThatSayAsMuch_40 rfl rfl ?_
          refine qt_istore_n (fun v41 => [(2, .int v41), (0, .ref (g.1 + 34)), (1, .int x1), (3, .int x3)]) dX1_fewestThatSayAsMuch_41 rfl (Nat.le_of_ble_eq_true rfl) (fun _ => rfl) E (fun v41 E => ?_)
          exact qt_sub _ [1, 2, 0, 3] rfl ((s_X1_fewestThatSayAsMuch_b42 x1 v41 x3 h34 E G))
noncomputable def f_X1_fewestThatSayAsMuch_b4_loop (x1 : Int32) (x2 : Int32) (x3 : Int32) (h : qa_M) : Option (Int32 × qa_M) := qlp (fun sz : Int32 × Int32 × Int32 × qa_M => f_X1_fewestThatSayAsMuch_b4 sz.1 sz.2.1 sz.2.2.1 sz.2.2.2) (x1, x2, x3, h)
theorem s_X1_fewestThatSayAsMuch_b4_loop {l : Launch} {g : qa_G} {d : Nat} {rz : Option Value} {hz : qa_M} (x1 : Int32) (x2 : Int32) (x3 : Int32) (h : qa_M) {z : (Int32 × qa_M)} (E : f_X1_fewestThatSayAsMuch_b4_loop x1 x2 x3 h = some z) (G : (qg_i rz hz) z) : qt_At l g (yX1_fewestThatSayAsMuch, cX1_fewestThatSayAsMuch, 4, (some .int)) (d + 2) 0 0 4 [(0, .ref (g.1 + 34)), (1, .int x1), (2, .int x2), (3, .int x3)] [] h rz hz :=
  qlp_ind (fun sz : Int32 × Int32 × Int32 × qa_M => qt_At l g (yX1_fewestThatSayAsMuch, cX1_fewestThatSayAsMuch, 4, (some .int)) (d + 2) 0 0 4 [(0, .ref (g.1 + 34)), (1, .int sz.1), (2, .int sz.2.1), (3, .int sz.2.2.1)] [] sz.2.2.2 rz hz) (fun sz E => s_X1_fewestThatSayAsMuch_b4 sz.1 sz.2.1 sz.2.2.1 sz.2.2.2 E G) (fun sz sz2 E ih => s_X1_fewestThatSayAsMuch_b4 sz.1 sz.2.1 sz.2.2.1 sz.2.2.2 E ih) (x1, x2, x3, h) E
noncomputable def m_X1_fewestThatSayAsMuch (x1 : Int32) (h : qa_M) : Option (Int32 × qa_M) :=
  qbd x1 (fun v1 : Int32 =>
  qbd (0 : Int32) (fun v3 : Int32 =>
  f_X1_fewestThatSayAsMuch_b4_loop x1 v1 v3 h))
set_option maxRecDepth 20000 in
theorem c_X1_fewestThatSayAsMuch {l : Launch} {g : qa_G} {d : Nat} (x1 : Int32) (h : qa_M) {c : Int32} {h1 : qa_M} (E : m_X1_fewestThatSayAsMuch x1 h = some (c, h1)) : qt_Met l g (yX1_fewestThatSayAsMuch, cX1_fewestThatSayAsMuch, 4, (some .int)) (d + 2) 0 [.ref (g.1 + 34), .int x1] h (some (.int c)) h1 := by
  refine qt_Met.of (plainFor_of_name (by decide)) (Nat.le_of_ble_eq_true rfl) ?_
  have G : qg_i (some (.int c)) h1 ((c, h1)) := ⟨rfl, rfl⟩
  unfold m_X1_fewestThatSayAsMuch at E
  refine qt_iload_n 1 dX1_fewestThatSayAsMuch_0 rfl rfl ?_
  refine qt_istore_n (fun v1 => [(2, .int v1), (0, .ref (g.1 + 34)), (1, .int x1)]) dX1_fewestThatSayAsMuch_1 rfl (Nat.le_of_ble_eq_true rfl) (fun _ => rfl) E (fun v1 E => ?_)
  refine qt_iconst dX1_fewestThatSayAsMuch_2 ci_0 ?_
  refine qt_istore_n (fun v3 => [(3, .int v3), (2, .int v1), (0, .ref (g.1 + 34)), (1, .int x1)]) dX1_fewestThatSayAsMuch_3 rfl (Nat.le_of_ble_eq_true rfl) (fun _ => rfl) E (fun v3 E => ?_)
  exact qt_sub _ [2, 3, 1, 0] rfl ((s_X1_fewestThatSayAsMuch_b4_loop x1 v1 v3 h E G))
noncomputable def m_X11_least (x1 : Int32) (h : qa_M) : Option (Int32 × qa_M) :=
  qbn (m_X11_known x1 h) (fun (c2 : Int32) (h2 : qa_M) =>
  if c2 = 0 then (
   some ((-1 : Int32), h2))
  else (
   qbv (m_X11_countAllSets h2) (fun h11 : qa_M =>
   qbn (m_X1_fewestThatSayAsMuch x1 h11) (fun (c19 : Int32) (h19 : qa_M) =>
   some (c19, h19)))))
set_option maxRecDepth 20000 in
theorem c_X11_least {l : Launch} {g : qa_G} {d : Nat} (x1 : Int32) (h : qa_M) {c : Int32} {h1 : qa_M} (E : m_X11_least x1 h = some (c, h1)) : qt_Met l g (yX11_least, cX11_least, 2, (some .int)) (d + 7) 0 [.ref (g.1 + 0), .int x1] h (some (.int c)) h1 := by
  refine qt_Met.of (plainFor_of_name (by decide)) (Nat.le_of_ble_eq_true rfl) ?_
  have G : qg_i (some (.int c)) h1 ((c, h1)) := ⟨rfl, rfl⟩
  unfold m_X11_least at E
  refine qt_aload_n 0 dX11_least_0 rfl rfl ?_
  refine qt_iload_n 1 dX11_least_1 rfl rfl ?_
  obtain ⟨c2, h2, e2, E⟩ := qbn_el E
  refine qt_callVi (b2 := 0) [.int x1] (c_X11_known x1 h e2) cv_RX11_187 (wl_0 h) rfl rfl rfl (Nat.le_of_ble_eq_true rfl) (Nat.le_of_ble_eq_true rfl) dX11_least_2 ?_
  refine qt_if_ne 10 dX11_least_5 (by decide) E (fun E => ?_) (fun E => ?_)
  · refine qt_aload_n 0 dX11_least_10 rfl rfl ?_
    obtain ⟨h11, e11, E⟩ := qbv_el E
    refine qt_callVv (b2 := 0) [] (c_X11_countAllSets h2 e11) cv_RX11_228 (wl_0 h2) rfl rfl rfl (Nat.le_of_ble_eq_true rfl) (Nat.le_of_ble_eq_true rfl) dX11_least_11 ?_
    refine qt_aload_n 0 dX11_least_14 rfl rfl ?_
    refine qt_getS 34 (wl_0 h11) fe_RX11_74 rfl dX11_least_15 ?_
    refine qt_iload_n 1 dX11_least_18 rfl rfl ?_
    obtain ⟨c19, h19, e19, E⟩ := qbn_el E
    refine qt_callVi (b2 := 0) [.int x1] (c_X1_fewestThatSayAsMuch x1 h11 e19) cv_RX11_231 (wl_34 h11) rfl rfl rfl (Nat.le_of_ble_eq_true rfl) (Nat.le_of_ble_eq_true rfl) dX11_least_19 ?_
    exact qt_ireturn rfl (Nat.le_of_ble_eq_true rfl) dX11_least_22 E G
  · refine qt_iconst dX11_least_8 ci_m1 ?_
    exact qt_ireturn rfl (Nat.le_of_ble_eq_true rfl) dX11_least_9 E G
noncomputable def f_X1_fewestToLeaveOut_b39 (x1 : Int32) (x2 : Int32) (x3 : Int32) (h : qa_M) : Option ((Int32 × Int32 × Int32 × qa_M) ⊕ (Int32 × qa_M)) :=
  qbd (x3 + (1 : Int32)) (fun v39 : Int32 =>
  some (.inl (x1, x2, v39, h)))
set_option maxRecDepth 20000 in
theorem s_X1_fewestToLeaveOut_b39 {l : Launch} {g : qa_G} {d : Nat} {rz : Option Value} {hz : qa_M} (x1 : Int32) (x2 : Int32) (x3 : Int32) (h : qa_M) {z : ((Int32 × Int32 × Int32 × qa_M) ⊕ (Int32 × qa_M))} (E : f_X1_fewestToLeaveOut_b39 x1 x2 x3 h = some z) (G : (Sum.elim (fun (sz : Int32 × Int32 × Int32 × qa_M) => qt_At l g (yX1_fewestToLeaveOut, cX1_fewestToLeaveOut, 4, (some .int)) (d + 2) 0 0 5 [(0, .ref (g.1 + 34)), (1, .int sz.1), (2, .int sz.2.1), (3, .int sz.2.2.1)] [] sz.2.2.2 rz hz) (qg_i rz hz)) z) : qt_At l g (yX1_fewestToLeaveOut, cX1_fewestToLeaveOut, 4, (some .int)) (d + 2) 0 0 39 [(0, .ref (g.1 + 34)), (1, .int x1), (2, .int x2), (3, .int x3)] [] h rz hz := by
  unfold f_X1_fewestToLeaveOut_b39 at E
  refine qt_iinc 3 (fun v39 => [(3, .int v39), (0, .ref (g.1 + 34)), (1, .int x1), (2, .int x2)]) dX1_fewestToLeaveOut_39 rfl ci_1 (Nat.le_of_ble_eq_true rfl) (fun _ => rfl) E (fun v39 E => ?_)
  refine qt_goto 5 dX1_fewestToLeaveOut_42 (by decide) ?_
  cases E
  exact qt_sub _ [1, 2, 3, 0] rfl (G)
noncomputable def f_X1_fewestToLeaveOut_b5 (x1 : Int32) (x2 : Int32) (x3 : Int32) (h : qa_M) : Option ((Int32 × Int32 × Int32 × qa_M) ⊕ (Int32 × qa_M)) :=
  if x1 < x3 then (
   qup (some (x2, h)))
  else (
   if (x3 &&& (x1 ^^^ (-1 : Int32))) = 0 then (
    qck (x1 ^^^ x3) 1024 (
    if (h.1 35 (x1 ^^^ x3).toNatClampNeg) ≤ 0 then (
     f_X1_fewestToLeaveOut_b39 x1 x2 x3 h)
    else (
     qbn (m_X1_isFewer x3 x2 h) (fun (c31 : Int32) (h31 : qa_M) =>
     if c31 = 0 then (
      f_X1_fewestToLeaveOut_b39 x1 x2 x3 h31)
     else (
      qbd x3 (fun v38 : Int32 =>
      f_X1_fewestToLeaveOut_b39 x1 v38 x3 h31))))))
   else (
    f_X1_fewestToLeaveOut_b39 x1 x2 x3 h))
set_option maxRecDepth 20000 in
theorem s_X1_fewestToLeaveOut_b5 {l : Launch} {g : qa_G} {d : Nat} {rz : Option Value} {hz : qa_M} (x1 : Int32) (x2 : Int32) (x3 : Int32) (h : qa_M) {z : ((Int32 × Int32 × Int32 × qa_M) ⊕ (Int32 × qa_M))} (E : f_X1_fewestToLeaveOut_b5 x1 x2 x3 h = some z) (G : (Sum.elim (fun (sz : Int32 × Int32 × Int32 × qa_M) => qt_At l g (yX1_fewestToLeaveOut, cX1_fewestToLeaveOut, 4, (some .int)) (d + 2) 0 0 5 [(0, .ref (g.1 + 34)), (1, .int sz.1), (2, .int sz.2.1), (3, .int sz.2.2.1)] [] sz.2.2.2 rz hz) (qg_i rz hz)) z) : qt_At l g (yX1_fewestToLeaveOut, cX1_fewestToLeaveOut, 4, (some .int)) (d + 2) 0 0 5 [(0, .ref (g.1 + 34)), (1, .int x1), (2, .int x2), (3, .int x3)] [] h rz hz := by
  unfold f_X1_fewestToLeaveOut_b5 at E
  refine qt_iload_n 3 dX1_fewestToLeaveOut_5 rfl rfl ?_
  refine qt_iload_n 1 dX1_fewestToLeaveOut_6 rfl rfl ?_
  refine qt_icmp_gt 45 dX1_fewestToLeaveOut_7 (by decide) E (fun E => ?_) (fun E => ?_)
  · refine qt_iload_n 2 dX1_fewestToLeaveOut_45 rfl rfl ?_
    obtain ⟨z0_, E, G⟩ := qup_g E G
    exact qt_ireturn rfl (Nat.le_of_ble_eq_true rfl) dX1_fewestToLeaveOut_46 E G
  · refine qt_iload_n 3 dX1_fewestToLeaveOut_10 rfl rfl ?_
    refine qt_iload_n 1 dX1_fewestToLeaveOut_11 rfl rfl ?_
    refine qt_iconst dX1_fewestToLeaveOut_12 ci_m1 ?_
    refine qt_ixor dX1_fewestToLeaveOut_13 ?_
    refine qt_iand dX1_fewestToLeaveOut_14 ?_
    refine qt_if_ne 39 dX1_fewestToLeaveOut_15 (by decide) E (fun E => ?_) (fun E => ?_)
    · exact qt_sub _ [0, 1, 2, 3] rfl ((s_X1_fewestToLeaveOut_b39 x1 x2 x3 h E G))
    · refine qt_aload_n 0 dX1_fewestToLeaveOut_18 rfl rfl ?_
      refine qt_getS 35 (wl_34 h) fe_RX1_11 rfl dX1_fewestToLeaveOut_19 ?_
      refine qt_iload_n 1 dX1_fewestToLeaveOut_22 rfl rfl ?_
      refine qt_iload_n 3 dX1_fewestToLeaveOut_23 rfl rfl ?_
      refine qt_ixor dX1_fewestToLeaveOut_24 ?_
      refine qt_iald (wl_35 h) dX1_fewestToLeaveOut_25 E (fun E => ?_)
      refine qt_if_le 39 dX1_fewestToLeaveOut_26 (by decide) E (fun E => ?_) (fun E => ?_)
      · exact qt_sub _ [0, 1, 2, 3] rfl ((s_X1_fewestToLeaveOut_b39 x1 x2 x3 h E G))
      · refine qt_iload_n 3 dX1_fewestToLeaveOut_29 rfl rfl ?_
        refine qt_iload_n 2 dX1_fewestToLeaveOut_30 rfl rfl ?_
        obtain ⟨c31, h31, e31, E⟩ := qbn_el E
        refine qt_callSi (b2 := 0) [.int x3, .int x2] (c_X1_isFewer x3 x2 h e31) cv_RX1_111 rfl (Nat.le_of_ble_eq_true rfl) (Nat.le_of_ble_eq_true rfl) dX1_fewestToLeaveOut_31 ?_
        refine qt_if_eq 39 dX1_fewestToLeaveOut_34 (by decide) E (fun E => ?_) (fun E => ?_)
        · exact qt_sub _ [0, 1, 2, 3] rfl ((s_X1_fewestToLeaveOut_b39 x1 x2 x3 h31 E G))
        · refine qt_iload_n 3 dX1_fewestToLeaveOut_37 rfl rfl ?_
          refine qt_istore_n (fun v38 => [(2, .int v38), (0, .ref (g.1 + 34)), (1, .int x1), (3, .int x3)]) dX1_fewestToLeaveOut_38 rfl (Nat.le_of_ble_eq_true rfl) (fun _ => rfl) E (fun v38 E => ?_)
          exact qt_sub _ [1, 2, 0, 3] rfl ((s_X1_fewestToLeaveOut_b39 x1 v38 x3 h31 E G))
noncomputable def f_X1_fewestToLeaveOut_b5_loop (x1 : Int32) (x2 : Int32) (x3 : Int32) (h : qa_M) : Option (Int32 × qa_M) := qlp (fun sz : Int32 × Int32 × Int32 × qa_M => f_X1_fewestToLeaveOut_b5 sz.1 sz.2.1 sz.2.2.1 sz.2.2.2) (x1, x2, x3, h)
theorem s_X1_fewestToLeaveOut_b5_loop {l : Launch} {g : qa_G} {d : Nat} {rz : Option Value} {hz : qa_M} (x1 : Int32) (x2 : Int32) (x3 : Int32) (h : qa_M) {z : (Int32 × qa_M)} (E : f_X1_fewestToLeaveOut_b5_loop x1 x2 x3 h = some z) (G : (qg_i rz hz) z) : qt_At l g (yX1_fewestToLeaveOut, cX1_fewestToLeaveOut, 4, (some .int)) (d + 2) 0 0 5 [(0, .ref (g.1 + 34)), (1, .int x1), (2, .int x2), (3, .int x3)] [] h rz hz :=
  qlp_ind (fun sz : Int32 × Int32 × Int32 × qa_M => qt_At l g (yX1_fewestToLeaveOut, cX1_fewestToLeaveOut, 4, (some .int)) (d + 2) 0 0 5 [(0, .ref (g.1 + 34)), (1, .int sz.1), (2, .int sz.2.1), (3, .int sz.2.2.1)] [] sz.2.2.2 rz hz) (fun sz E => s_X1_fewestToLeaveOut_b5 sz.1 sz.2.1 sz.2.2.1 sz.2.2.2 E G) (fun sz sz2 E ih => s_X1_fewestToLeaveOut_b5 sz.1 sz.2.1 sz.2.2.1 sz.2.2.2 E ih) (x1, x2, x3, h) E
noncomputable def m_X1_fewestToLeaveOut (x1 : Int32) (h : qa_M) : Option (Int32 × qa_M) :=
  qbd (-2 : Int32) (fun v2 : Int32 =>
  qbd (0 : Int32) (fun v4 : Int32 =>
  f_X1_fewestToLeaveOut_b5_loop x1 v2 v4 h))
set_option maxRecDepth 20000 in
theorem c_X1_fewestToLeaveOut {l : Launch} {g : qa_G} {d : Nat} (x1 : Int32) (h : qa_M) {c : Int32} {h1 : qa_M} (E : m_X1_fewestToLeaveOut x1 h = some (c, h1)) : qt_Met l g (yX1_fewestToLeaveOut, cX1_fewestToLeaveOut, 4, (some .int)) (d + 2) 0 [.ref (g.1 + 34), .int x1] h (some (.int c)) h1 := by
  refine qt_Met.of (plainFor_of_name (by decide)) (Nat.le_of_ble_eq_true rfl) ?_
  have G : qg_i (some (.int c)) h1 ((c, h1)) := ⟨rfl, rfl⟩
  unfold m_X1_fewestToLeaveOut at E
  refine qt_bipush dX1_fewestToLeaveOut_0 cb_m2 ?_
  refine qt_istore_n (fun v2 => [(2, .int v2), (0, .ref (g.1 + 34)), (1, .int x1)]) dX1_fewestToLeaveOut_2 rfl (Nat.le_of_ble_eq_true rfl) (fun _ => rfl) E (fun v2 E => ?_)
  refine qt_iconst dX1_fewestToLeaveOut_3 ci_0 ?_
  refine qt_istore_n (fun v4 => [(3, .int v4), (2, .int v2), (0, .ref (g.1 + 34)), (1, .int x1)]) dX1_fewestToLeaveOut_4 rfl (Nat.le_of_ble_eq_true rfl) (fun _ => rfl) E (fun v4 E => ?_)
  exact qt_sub _ [2, 3, 1, 0] rfl ((s_X1_fewestToLeaveOut_b5_loop x1 v2 v4 h E G))
noncomputable def m_X11_careless (x1 : Int32) (h : qa_M) : Option (Int32 × qa_M) :=
  qbn (m_X11_known x1 h) (fun (c2 : Int32) (h2 : qa_M) =>
  if c2 = 0 then (
   some ((-1 : Int32), h2))
  else (
   qbv (m_X11_countAllSets h2) (fun h11 : qa_M =>
   qbn (m_X1_fewestToLeaveOut x1 h11) (fun (c19 : Int32) (h19 : qa_M) =>
   some (c19, h19)))))
set_option maxRecDepth 20000 in
theorem c_X11_careless {l : Launch} {g : qa_G} {d : Nat} (x1 : Int32) (h : qa_M) {c : Int32} {h1 : qa_M} (E : m_X11_careless x1 h = some (c, h1)) : qt_Met l g (yX11_careless, cX11_careless, 2, (some .int)) (d + 7) 0 [.ref (g.1 + 0), .int x1] h (some (.int c)) h1 := by
  refine qt_Met.of (plainFor_of_name (by decide)) (Nat.le_of_ble_eq_true rfl) ?_
  have G : qg_i (some (.int c)) h1 ((c, h1)) := ⟨rfl, rfl⟩
  unfold m_X11_careless at E
  refine qt_aload_n 0 dX11_careless_0 rfl rfl ?_
  refine qt_iload_n 1 dX11_careless_1 rfl rfl ?_
  obtain ⟨c2, h2, e2, E⟩ := qbn_el E
  refine qt_callVi (b2 := 0) [.int x1] (c_X11_known x1 h e2) cv_RX11_187 (wl_0 h) rfl rfl rfl (Nat.le_of_ble_eq_true rfl) (Nat.le_of_ble_eq_true rfl) dX11_careless_2 ?_
  refine qt_if_ne 10 dX11_careless_5 (by decide) E (fun E => ?_) (fun E => ?_)
  · refine qt_aload_n 0 dX11_careless_10 rfl rfl ?_
    obtain ⟨h11, e11, E⟩ := qbv_el E
    refine qt_callVv (b2 := 0) [] (c_X11_countAllSets h2 e11) cv_RX11_228 (wl_0 h2) rfl rfl rfl (Nat.le_of_ble_eq_true rfl) (Nat.le_of_ble_eq_true rfl) dX11_careless_11 ?_
    refine qt_aload_n 0 dX11_careless_14 rfl rfl ?_
    refine qt_getS 34 (wl_0 h11) fe_RX11_74 rfl dX11_careless_15 ?_
    refine qt_iload_n 1 dX11_careless_18 rfl rfl ?_
    obtain ⟨c19, h19, e19, E⟩ := qbn_el E
    refine qt_callVi (b2 := 0) [.int x1] (c_X1_fewestToLeaveOut x1 h11 e19) cv_RX11_234 (wl_34 h11) rfl rfl rfl (Nat.le_of_ble_eq_true rfl) (Nat.le_of_ble_eq_true rfl) dX11_careless_19 ?_
    exact qt_ireturn rfl (Nat.le_of_ble_eq_true rfl) dX11_careless_22 E G
  · refine qt_iconst dX11_careless_8 ci_m1 ?_
    exact qt_ireturn rfl (Nat.le_of_ble_eq_true rfl) dX11_careless_9 E G
noncomputable def m_X8_surveyor (x1 : Int32) (h : qa_M) : Option (Int32 × qa_M) :=
  qbn (m_X8_fact x1 (0 : Int32) h) (fun (c3 : Int32) (h3 : qa_M) =>
  some (c3, h3))
set_option maxRecDepth 20000 in
theorem c_X8_surveyor {l : Launch} {g : qa_G} {d : Nat} (x1 : Int32) (h : qa_M) {c : Int32} {h1 : qa_M} (E : m_X8_surveyor x1 h = some (c, h1)) : qt_Met l g (yX8_surveyor, cX8_surveyor, 2, (some .int)) (d + 1) 0 [.ref (g.1 + 3), .int x1] h (some (.int c)) h1 := by
  refine qt_Met.of (plainFor_of_name (by decide)) (Nat.le_of_ble_eq_true rfl) ?_
  have G : qg_i (some (.int c)) h1 ((c, h1)) := ⟨rfl, rfl⟩
  unfold m_X8_surveyor at E
  refine qt_aload_n 0 dX8_surveyor_0 rfl rfl ?_
  refine qt_iload_n 1 dX8_surveyor_1 rfl rfl ?_
  refine qt_iconst dX8_surveyor_2 ci_0 ?_
  obtain ⟨c3, h3, e3, E⟩ := qbn_el E
  refine qt_callVi (b2 := 0) [.int x1, .int (0 : Int32)] (c_X8_fact x1 (0 : Int32) h e3) cv_RX8_42 (wl_3 h) rfl rfl rfl (Nat.le_of_ble_eq_true rfl) (Nat.le_of_ble_eq_true rfl) dX8_surveyor_3 ?_
  exact qt_ireturn rfl (Nat.le_of_ble_eq_true rfl) dX8_surveyor_6 E G
noncomputable def f_X1_without_b36 (x2 : Int32) (x3 : Int32) (x4 : Int32) (h : qa_M) : Option ((Int32 × Int32 × Int32 × qa_M) ⊕ (Int32 × qa_M)) :=
  qbd (x4 + (1 : Int32)) (fun v36 : Int32 =>
  some (.inl (x2, x3, v36, h)))
set_option maxRecDepth 20000 in
theorem s_X1_without_b36 {l : Launch} {g : qa_G} {d : Nat} {rz : Option Value} {hz : qa_M} (x2 : Int32) (x3 : Int32) (x4 : Int32) (h : qa_M) {z : ((Int32 × Int32 × Int32 × qa_M) ⊕ (Int32 × qa_M))} (E : f_X1_without_b36 x2 x3 x4 h = some z) (G : (Sum.elim (fun (sz : Int32 × Int32 × Int32 × qa_M) => qt_At l g (yX1_without, cX1_without, 5, (some .int)) (d + 2) 0 0 5 [(0, .ref (g.1 + 3)), (2, .int sz.1), (3, .int sz.2.1), (4, .int sz.2.2.1)] [] sz.2.2.2 rz hz) (qg_i rz hz)) z) : qt_At l g (yX1_without, cX1_without, 5, (some .int)) (d + 2) 0 0 36 [(0, .ref (g.1 + 3)), (2, .int x2), (3, .int x3), (4, .int x4)] [] h rz hz := by
  unfold f_X1_without_b36 at E
  refine qt_iinc 3 (fun v36 => [(4, .int v36), (0, .ref (g.1 + 3)), (2, .int x2), (3, .int x3)]) dX1_without_36 rfl ci_1 (Nat.le_of_ble_eq_true rfl) (fun _ => rfl) E (fun v36 E => ?_)
  refine qt_goto 5 dX1_without_39 (by decide) ?_
  cases E
  exact qt_sub _ [1, 2, 3, 0] rfl (G)
noncomputable def f_X1_without_b5 (x2 : Int32) (x3 : Int32) (x4 : Int32) (h : qa_M) : Option ((Int32 × Int32 × Int32 × qa_M) ⊕ (Int32 × qa_M)) :=
  if (h.1 3 1) ≤ x4 then (
   qup (some (x3, h)))
  else (
   qbn (m_X8_surveyor x4 h) (fun (c18 : Int32) (h18 : qa_M) =>
   if ((x2 >>> (c18 &&& 31)) &&& (1 : Int32)) = 0 then (
    f_X1_without_b36 x2 x3 x4 h18)
   else (
    qbd (x3 &&& (((1 : Int32) <<< (x4 &&& 31)) ^^^ (-1 : Int32))) (fun v35 : Int32 =>
    f_X1_without_b36 x2 v35 x4 h18))))
set_option maxRecDepth 20000 in
theorem s_X1_without_b5 {l : Launch} {g : qa_G} {d : Nat} {rz : Option Value} {hz : qa_M} (x2 : Int32) (x3 : Int32) (x4 : Int32) (h : qa_M) {z : ((Int32 × Int32 × Int32 × qa_M) ⊕ (Int32 × qa_M))} (E : f_X1_without_b5 x2 x3 x4 h = some z) (G : (Sum.elim (fun (sz : Int32 × Int32 × Int32 × qa_M) => qt_At l g (yX1_without, cX1_without, 5, (some .int)) (d + 2) 0 0 5 [(0, .ref (g.1 + 3)), (2, .int sz.1), (3, .int sz.2.1), (4, .int sz.2.2.1)] [] sz.2.2.2 rz hz) (qg_i rz hz)) z) : qt_At l g (yX1_without, cX1_without, 5, (some .int)) (d + 2) 0 0 5 [(0, .ref (g.1 + 3)), (2, .int x2), (3, .int x3), (4, .int x4)] [] h rz hz := by
  unfold f_X1_without_b5 at E
  refine qt_iload 3 dX1_without_5 rfl ?_
  refine qt_aload_n 0 dX1_without_7 rfl rfl ?_
  refine qt_getI (wl_3 h) fe_RX1_67 rfl dX1_without_8 ?_
  refine qt_icmp_ge 42 dX1_without_11 (by decide) E (fun E => ?_) (fun E => ?_)
  · refine qt_iload_n 2 dX1_without_42 rfl rfl ?_
    obtain ⟨z0_, E, G⟩ := qup_g E G
    exact qt_ireturn rfl (Nat.le_of_ble_eq_true rfl) dX1_without_43 E G
  · refine qt_iload_n 1 dX1_without_14 rfl rfl ?_
    refine qt_aload_n 0 dX1_without_15 rfl rfl ?_
    refine qt_iload 3 dX1_without_16 rfl ?_
    obtain ⟨c18, h18, e18, E⟩ := qbn_el E
    refine qt_callVi (b2 := 0) [.int x4] (c_X8_surveyor x4 h e18) cv_RX1_119 (wl_3 h) rfl rfl rfl (Nat.le_of_ble_eq_true rfl) (Nat.le_of_ble_eq_true rfl) dX1_without_18 ?_
    refine qt_ishr dX1_without_21 ?_
    refine qt_iconst dX1_without_22 ci_1 ?_
    refine qt_iand dX1_without_23 ?_
    refine qt_if_eq 36 dX1_without_24 (by decide) E (fun E => ?_) (fun E => ?_)
    · exact qt_sub _ [0, 1, 2, 3] rfl ((s_X1_without_b36 x2 x3 x4 h18 E G))
    · refine qt_iload_n 2 dX1_without_27 rfl rfl ?_
      refine qt_iconst dX1_without_28 ci_1 ?_
      refine qt_iload 3 dX1_without_29 rfl ?_
      refine qt_ishl dX1_without_31 ?_
      refine qt_iconst dX1_without_32 ci_m1 ?_
      refine qt_ixor dX1_without_33 ?_
      refine qt_iand dX1_without_34 ?_
      refine qt_istore_n (fun v35 => [(3, .int v35), (0, .ref (g.1 + 3)), (2, .int x2), (4, .int x4)]) dX1_without_35 rfl (Nat.le_of_ble_eq_true rfl) (fun _ => rfl) E (fun v35 E => ?_)
      exact qt_sub _ [1, 2, 0, 3] rfl ((s_X1_without_b36 x2 v35 x4 h18 E G))
noncomputable def f_X1_without_b5_loop (x2 : Int32) (x3 : Int32) (x4 : Int32) (h : qa_M) : Option (Int32 × qa_M) := qlp (fun sz : Int32 × Int32 × Int32 × qa_M => f_X1_without_b5 sz.1 sz.2.1 sz.2.2.1 sz.2.2.2) (x2, x3, x4, h)
theorem s_X1_without_b5_loop {l : Launch} {g : qa_G} {d : Nat} {rz : Option Value} {hz : qa_M} (x2 : Int32) (x3 : Int32) (x4 : Int32) (h : qa_M) {z : (Int32 × qa_M)} (E : f_X1_without_b5_loop x2 x3 x4 h = some z) (G : (qg_i rz hz) z) : qt_At l g (yX1_without, cX1_without, 5, (some .int)) (d + 2) 0 0 5 [(0, .ref (g.1 + 3)), (2, .int x2), (3, .int x3), (4, .int x4)] [] h rz hz :=
  qlp_ind (fun sz : Int32 × Int32 × Int32 × qa_M => qt_At l g (yX1_without, cX1_without, 5, (some .int)) (d + 2) 0 0 5 [(0, .ref (g.1 + 3)), (2, .int sz.1), (3, .int sz.2.1), (4, .int sz.2.2.1)] [] sz.2.2.2 rz hz) (fun sz E => s_X1_without_b5 sz.1 sz.2.1 sz.2.2.1 sz.2.2.2 E G) (fun sz sz2 E ih => s_X1_without_b5 sz.1 sz.2.1 sz.2.2.1 sz.2.2.2 E ih) (x2, x3, x4, h) E
noncomputable def m_X1_without (x1 : Int32) (x2 : Int32) (h : qa_M) : Option (Int32 × qa_M) :=
  qbd x1 (fun v1 : Int32 =>
  qbd (0 : Int32) (fun v3 : Int32 =>
  f_X1_without_b5_loop x2 v1 v3 h))
set_option maxRecDepth 20000 in
theorem c_X1_without {l : Launch} {g : qa_G} {d : Nat} (x1 : Int32) (x2 : Int32) (h : qa_M) {c : Int32} {h1 : qa_M} (E : m_X1_without x1 x2 h = some (c, h1)) : qt_Met l g (yX1_without, cX1_without, 5, (some .int)) (d + 2) 0 [.ref (g.1 + 3), .int x1, .int x2] h (some (.int c)) h1 := by
  refine qt_Met.of (plainFor_of_name (by decide)) (Nat.le_of_ble_eq_true rfl) ?_
  have G : qg_i (some (.int c)) h1 ((c, h1)) := ⟨rfl, rfl⟩
  unfold m_X1_without at E
  refine qt_iload_n 1 dX1_without_0 rfl rfl ?_
  refine qt_istore_n (fun v1 => [(3, .int v1), (0, .ref (g.1 + 3)), (1, .int x1), (2, .int x2)]) dX1_without_1 rfl (Nat.le_of_ble_eq_true rfl) (fun _ => rfl) E (fun v1 E => ?_)
  refine qt_iconst dX1_without_2 ci_0 ?_
  refine qt_istore (fun v3 => [(4, .int v3), (3, .int v1), (0, .ref (g.1 + 3)), (1, .int x1), (2, .int x2)]) dX1_without_3 (Nat.le_of_ble_eq_true rfl) (fun _ => rfl) E (fun v3 E => ?_)
  exact qt_sub _ [2, 4, 1, 0] rfl ((s_X1_without_b5_loop x2 v1 v3 h E G))
noncomputable def f_X1_fewestToDistrust_b40 (x2 : Int32) (x3 : Int32) (x4 : Int32) (h : qa_M) : Option ((Int32 × Int32 × Int32 × qa_M) ⊕ (Int32 × qa_M)) :=
  qbd (x4 + (1 : Int32)) (fun v40 : Int32 =>
  some (.inl (x2, x3, v40, h)))
set_option maxRecDepth 20000 in
theorem s_X1_fewestToDistrust_b40 {l : Launch} {g : qa_G} {d : Nat} {rz : Option Value} {hz : qa_M} (x2 : Int32) (x3 : Int32) (x4 : Int32) (h : qa_M) {z : ((Int32 × Int32 × Int32 × qa_M) ⊕ (Int32 × qa_M))} (E : f_X1_fewestToDistrust_b40 x2 x3 x4 h = some z) (G : (Sum.elim (fun (sz : Int32 × Int32 × Int32 × qa_M) => qt_At l g (yX1_fewestToDistrust, cX1_fewestToDistrust, 5, (some .int)) (d + 3) 0 0 6 [(0, .ref (g.1 + 34)), (1, .ref (g.1 + 3)), (2, .int sz.1), (3, .int sz.2.1), (4, .int sz.2.2.1)] [] sz.2.2.2 rz hz) (qg_i rz hz)) z) : qt_At l g (yX1_fewestToDistrust, cX1_fewestToDistrust, 5, (some .int)) (d + 3) 0 0 40 [(0, .ref (g.1 + 34)), (1, .ref (g.1 + 3)), (2, .int x2), (3, .int x3), (4, .int x4)] [] h rz hz := by
  unfold f_X1_fewestToDistrust_b40 at E
  refine qt_iinc 4 (fun v40 => [(4, .int v40), (0, .ref (g.1 + 34)), (1, .ref (g.1 + 3)), (2, .int x2), (3, .int x3)]) dX1_fewestToDistrust_40 rfl ci_1 (Nat.le_of_ble_eq_true rfl) (fun _ => rfl) E (fun v40 E => ?_)
  refine qt_goto 6 dX1_fewestToDistrust_43 (by decide) ?_
  cases E
  exact qt_sub _ [1, 2, 3, 4, 0] rfl (G)
noncomputable def f_X1_fewestToDistrust_b6 (x2 : Int32) (x3 : Int32) (x4 : Int32) (h : qa_M) : Option ((Int32 × Int32 × Int32 × qa_M) ⊕ (Int32 × qa_M)) :=
  if (64 : Int32) ≤ x4 then (
   qup (some (x3, h)))
  else (
   qbn (m_X1_without x2 x4 h) (fun (c21 : Int32) (h21 : qa_M) =>
   qck c21 1024 (
   if (h21.1 35 c21.toNatClampNeg) ≤ 0 then (
    f_X1_fewestToDistrust_b40 x2 x3 x4 h21)
   else (
    qbn (m_X1_isFewer x4 x3 h21) (fun (c31 : Int32) (h31 : qa_M) =>
    if c31 = 0 then (
     f_X1_fewestToDistrust_b40 x2 x3 x4 h31)
    else (
     qbd x4 (fun v39 : Int32 =>
     f_X1_fewestToDistrust_b40 x2 v39 x4 h31)))))))
set_option maxRecDepth 20000 in
theorem s_X1_fewestToDistrust_b6 {l : Launch} {g : qa_G} {d : Nat} {rz : Option Value} {hz : qa_M} (x2 : Int32) (x3 : Int32) (x4 : Int32) (h : qa_M) {z : ((Int32 × Int32 × Int32 × qa_M) ⊕ (Int32 × qa_M))} (E : f_X1_fewestToDistrust_b6 x2 x3 x4 h = some z) (G : (Sum.elim (fun (sz : Int32 × Int32 × Int32 × qa_M) => qt_At l g (yX1_fewestToDistrust, cX1_fewestToDistrust, 5, (some .int)) (d + 3) 0 0 6 [(0, .ref (g.1 + 34)), (1, .ref (g.1 + 3)), (2, .int sz.1), (3, .int sz.2.1), (4, .int sz.2.2.1)] [] sz.2.2.2 rz hz) (qg_i rz hz)) z) : qt_At l g (yX1_fewestToDistrust, cX1_fewestToDistrust, 5, (some .int)) (d + 3) 0 0 6 [(0, .ref (g.1 + 34)), (1, .ref (g.1 + 3)), (2, .int x2), (3, .int x3), (4, .int x4)] [] h rz hz := by
  unfold f_X1_fewestToDistrust_b6 at E
  refine qt_iload 4 dX1_fewestToDistrust_6 rfl ?_
  refine qt_bipush dX1_fewestToDistrust_8 cb_64 ?_
  refine qt_icmp_ge 46 dX1_fewestToDistrust_10 (by decide) E (fun E => ?_) (fun E => ?_)
  · refine qt_iload_n 3 dX1_fewestToDistrust_46 rfl rfl ?_
    obtain ⟨z0_, E, G⟩ := qup_g E G
    exact qt_ireturn rfl (Nat.le_of_ble_eq_true rfl) dX1_fewestToDistrust_47 E G
  · refine qt_aload_n 0 dX1_fewestToDistrust_13 rfl rfl ?_
    refine qt_getS 35 (wl_34 h) fe_RX1_11 rfl dX1_fewestToDistrust_14 ?_
    refine qt_aload_n 1 dX1_fewestToDistrust_17 rfl rfl ?_
    refine qt_iload_n 2 dX1_fewestToDistrust_18 rfl rfl ?_
    refine qt_iload 4 dX1_fewestToDistrust_19 rfl ?_
    obtain ⟨c21, h21, e21, E⟩ := qbn_el E
    refine qt_callSi (b2 := 0) [.ref (g.1 + 3), .int x2, .int x4] (c_X1_without x2 x4 h e21) cv_RX1_115 rfl (Nat.le_of_ble_eq_true rfl) (Nat.le_of_ble_eq_true rfl) dX1_fewestToDistrust_21 ?_
    refine qt_iald (wl_35 h21) dX1_fewestToDistrust_24 E (fun E => ?_)
    refine qt_if_le 40 dX1_fewestToDistrust_25 (by decide) E (fun E => ?_) (fun E => ?_)
    · exact qt_sub _ [0, 1, 2, 3, 4] rfl ((s_X1_fewestToDistrust_b40 x2 x3 x4 h21 E G))
    · refine qt_iload 4 dX1_fewestToDistrust_28 rfl ?_
      refine qt_iload_n 3 dX1_fewestToDistrust_30 rfl rfl ?_
      obtain ⟨c31, h31, e31, E⟩ := qbn_el E
      refine qt_callSi (b2 := 0) [.int x4, .int x3] (c_X1_isFewer x4 x3 h21 e31) cv_RX1_111 rfl (Nat.le_of_ble_eq_true rfl) (Nat.le_of_ble_eq_true rfl) dX1_fewestToDistrust_31 ?_
      refine qt_if_eq 40 dX1_fewestToDistrust_34 (by decide) E (fun E => ?_) (fun E => ?_)
      · exact qt_sub _ [0, 1, 2, 3, 4] rfl ((s_X1_fewestToDistrust_b40 x2 x3 x4 h31 E G))
      · refine qt_iload 4 dX1_fewestToDistrust_37 rfl ?_
        refine qt_istore_n (fun v39 => [(3, .int v39), (0, .ref (g.1 + 34)), (1, .ref (g.1 + 3)), (2, .int x2), (4, .int x4)]) dX1_fewestToDistrust_39 rfl (Nat.le_of_ble_eq_true rfl) (fun _ => rfl) E (fun v39 E => ?_)
        exact qt_sub _ [1, 2, 3, 0, 4] rfl ((s_X1_fewestToDistrust_b40 x2 v39 x4 h31 E G))
noncomputable def f_X1_fewestToDistrust_b6_loop (x2 : Int32) (x3 : Int32) (x4 : Int32) (h : qa_M) : Option (Int32 × qa_M) := qlp (fun sz : Int32 × Int32 × Int32 × qa_M => f_X1_fewestToDistrust_b6 sz.1 sz.2.1 sz.2.2.1 sz.2.2.2) (x2, x3, x4, h)
theorem s_X1_fewestToDistrust_b6_loop {l : Launch} {g : qa_G} {d : Nat} {rz : Option Value} {hz : qa_M} (x2 : Int32) (x3 : Int32) (x4 : Int32) (h : qa_M) {z : (Int32 × qa_M)} (E : f_X1_fewestToDistrust_b6_loop x2 x3 x4 h = some z) (G : (qg_i rz hz) z) : qt_At l g (yX1_fewestToDistrust, cX1_fewestToDistrust, 5, (some .int)) (d + 3) 0 0 6 [(0, .ref (g.1 + 34)), (1, .ref (g.1 + 3)), (2, .int x2), (3, .int x3), (4, .int x4)] [] h rz hz :=
  qlp_ind (fun sz : Int32 × Int32 × Int32 × qa_M => qt_At l g (yX1_fewestToDistrust, cX1_fewestToDistrust, 5, (some .int)) (d + 3) 0 0 6 [(0, .ref (g.1 + 34)), (1, .ref (g.1 + 3)), (2, .int sz.1), (3, .int sz.2.1), (4, .int sz.2.2.1)] [] sz.2.2.2 rz hz) (fun sz E => s_X1_fewestToDistrust_b6 sz.1 sz.2.1 sz.2.2.1 sz.2.2.2 E G) (fun sz sz2 E ih => s_X1_fewestToDistrust_b6 sz.1 sz.2.1 sz.2.2.1 sz.2.2.2 E ih) (x2, x3, x4, h) E
noncomputable def m_X1_fewestToDistrust (x2 : Int32) (h : qa_M) : Option (Int32 × qa_M) :=
  qbd (-2 : Int32) (fun v2 : Int32 =>
  qbd (0 : Int32) (fun v4 : Int32 =>
  f_X1_fewestToDistrust_b6_loop x2 v2 v4 h))
set_option maxRecDepth 20000 in
theorem c_X1_fewestToDistrust {l : Launch} {g : qa_G} {d : Nat} (x2 : Int32) (h : qa_M) {c : Int32} {h1 : qa_M} (E : m_X1_fewestToDistrust x2 h = some (c, h1)) : qt_Met l g (yX1_fewestToDistrust, cX1_fewestToDistrust, 5, (some .int)) (d + 3) 0 [.ref (g.1 + 34), .ref (g.1 + 3), .int x2] h (some (.int c)) h1 := by
  refine qt_Met.of (plainFor_of_name (by decide)) (Nat.le_of_ble_eq_true rfl) ?_
  have G : qg_i (some (.int c)) h1 ((c, h1)) := ⟨rfl, rfl⟩
  unfold m_X1_fewestToDistrust at E
  refine qt_bipush dX1_fewestToDistrust_0 cb_m2 ?_
  refine qt_istore_n (fun v2 => [(3, .int v2), (0, .ref (g.1 + 34)), (1, .ref (g.1 + 3)), (2, .int x2)]) dX1_fewestToDistrust_2 rfl (Nat.le_of_ble_eq_true rfl) (fun _ => rfl) E (fun v2 E => ?_)
  refine qt_iconst dX1_fewestToDistrust_3 ci_0 ?_
  refine qt_istore (fun v4 => [(4, .int v4), (3, .int v2), (0, .ref (g.1 + 34)), (1, .ref (g.1 + 3)), (2, .int x2)]) dX1_fewestToDistrust_4 (Nat.le_of_ble_eq_true rfl) (fun _ => rfl) E (fun v4 E => ?_)
  exact qt_sub _ [2, 3, 4, 1, 0] rfl ((s_X1_fewestToDistrust_b6_loop x2 v2 v4 h E G))
noncomputable def m_X11_trust (x1 : Int32) (h : qa_M) : Option (Int32 × qa_M) :=
  qbn (m_X11_known x1 h) (fun (c2 : Int32) (h2 : qa_M) =>
  if c2 = 0 then (
   some ((-1 : Int32), h2))
  else (
   qbv (m_X11_countAllSets h2) (fun h11 : qa_M =>
   qbn (m_X1_fewestToDistrust x1 h11) (fun (c23 : Int32) (h23 : qa_M) =>
   some (c23, h23)))))
set_option maxRecDepth 20000 in
theorem c_X11_trust {l : Launch} {g : qa_G} {d : Nat} (x1 : Int32) (h : qa_M) {c : Int32} {h1 : qa_M} (E : m_X11_trust x1 h = some (c, h1)) : qt_Met l g (yX11_trust, cX11_trust, 2, (some .int)) (d + 7) 0 [.ref (g.1 + 0), .int x1] h (some (.int c)) h1 := by
  refine qt_Met.of (plainFor_of_name (by decide)) (Nat.le_of_ble_eq_true rfl) ?_
  have G : qg_i (some (.int c)) h1 ((c, h1)) := ⟨rfl, rfl⟩
  unfold m_X11_trust at E
  refine qt_aload_n 0 dX11_trust_0 rfl rfl ?_
  refine qt_iload_n 1 dX11_trust_1 rfl rfl ?_
  obtain ⟨c2, h2, e2, E⟩ := qbn_el E
  refine qt_callVi (b2 := 0) [.int x1] (c_X11_known x1 h e2) cv_RX11_187 (wl_0 h) rfl rfl rfl (Nat.le_of_ble_eq_true rfl) (Nat.le_of_ble_eq_true rfl) dX11_trust_2 ?_
  refine qt_if_ne 10 dX11_trust_5 (by decide) E (fun E => ?_) (fun E => ?_)
  · refine qt_aload_n 0 dX11_trust_10 rfl rfl ?_
    obtain ⟨h11, e11, E⟩ := qbv_el E
    refine qt_callVv (b2 := 0) [] (c_X11_countAllSets h2 e11) cv_RX11_228 (wl_0 h2) rfl rfl rfl (Nat.le_of_ble_eq_true rfl) (Nat.le_of_ble_eq_true rfl) dX11_trust_11 ?_
    refine qt_aload_n 0 dX11_trust_14 rfl rfl ?_
    refine qt_getS 34 (wl_0 h11) fe_RX11_74 rfl dX11_trust_15 ?_
    refine qt_aload_n 0 dX11_trust_18 rfl rfl ?_
    refine qt_getS 3 (wl_0 h11) fe_RX11_19 rfl dX11_trust_19 ?_
    refine qt_iload_n 1 dX11_trust_22 rfl rfl ?_
    obtain ⟨c23, h23, e23, E⟩ := qbn_el E
    refine qt_callVi (b2 := 0) [.ref (g.1 + 3), .int x1] (c_X1_fewestToDistrust x1 h11 e23) cv_RX11_237 (wl_34 h11) rfl rfl rfl (Nat.le_of_ble_eq_true rfl) (Nat.le_of_ble_eq_true rfl) dX11_trust_23 ?_
    exact qt_ireturn rfl (Nat.le_of_ble_eq_true rfl) dX11_trust_26 E G
  · refine qt_iconst dX11_trust_8 ci_m1 ?_
    exact qt_ireturn rfl (Nat.le_of_ble_eq_true rfl) dX11_trust_9 E G
noncomputable def f_X0_viewFromHills_b10 (x2 : Int32) (h : qa_M) : Option ((Int32 × qa_M) ⊕ qa_M) :=
  if (h.1 40 0) ≤ x2 then (
   qup (some h))
  else (
   qck x2 8 (
   qck x2 36 (
   qbd (qw_J h 41 x2.toNatClampNeg (h.2.1 7 x2.toNatClampNeg)) (fun h29 : qa_M =>
   qck x2 36 (
   qbd (qw_I h29 42 x2.toNatClampNeg x2) (fun h36 : qa_M =>
   qbd (x2 + (1 : Int32)) (fun v37 : Int32 =>
   some (.inl (v37, h36)))))))))
set_option maxRecDepth 20000 in
theorem s_X0_viewFromHills_b10 {l : Launch} {g : qa_G} {d : Nat} {rz : Option Value} {hz : qa_M} (x2 : Int32) (h : qa_M) {z : ((Int32 × qa_M) ⊕ qa_M)} (E : f_X0_viewFromHills_b10 x2 h = some z) (G : (Sum.elim (fun (sz : Int32 × qa_M) => qt_At l g (yX0_viewFromHills, cX0_viewFromHills, 3, none) d 0 0 10 [(0, .ref (g.1 + 40)), (1, .ref (g.1 + 4)), (2, .int sz.1)] [] sz.2 rz hz) (qg_v rz hz)) z) : qt_At l g (yX0_viewFromHills, cX0_viewFromHills, 3, none) d 0 0 10 [(0, .ref (g.1 + 40)), (1, .ref (g.1 + 4)), (2, .int x2)] [] h rz hz := by
  unfold f_X0_viewFromHills_b10 at E
  refine qt_iload_n 2 dX0_viewFromHills_10 rfl rfl ?_
  refine qt_aload_n 0 dX0_viewFromHills_11 rfl rfl ?_
  refine qt_getI (wl_40 h) fe_RX0_87 rfl dX0_viewFromHills_12 ?_
  refine qt_icmp_ge 43 dX0_viewFromHills_15 (by decide) E (fun E => ?_) (fun E => ?_)
  · obtain ⟨z0_, E, G⟩ := qup_g E G
    exact qt_vreturn rfl (Nat.le_of_ble_eq_true rfl) dX0_viewFromHills_43 E G
  · refine qt_aload_n 0 dX0_viewFromHills_18 rfl rfl ?_
    refine qt_getS 41 (wl_40 h) fe_RX0_9 rfl dX0_viewFromHills_19 ?_
    refine qt_iload_n 2 dX0_viewFromHills_22 rfl rfl ?_
    refine qt_aload_n 1 dX0_viewFromHills_23 rfl rfl ?_
    refine qt_getS 7 (wl_4 h) fe_RX0_90 rfl dX0_viewFromHills_24 ?_
    refine qt_iload_n 2 dX0_viewFromHills_27 rfl rfl ?_
    refine qt_lald (wl_7 h) dX0_viewFromHills_28 E (fun E => ?_)
    refine qt_last (wl_41 h) dX0_viewFromHills_29 E (fun h29 E => ?_)
    refine qt_aload_n 0 dX0_viewFromHills_30 rfl rfl ?_
    refine qt_getS 42 (wl_40 h29) fe_RX0_15 rfl dX0_viewFromHills_31 ?_
    refine qt_iload_n 2 dX0_viewFromHills_34 rfl rfl ?_
    refine qt_iload_n 2 dX0_viewFromHills_35 rfl rfl ?_
    refine qt_iast (wl_42 h29) dX0_viewFromHills_36 E (fun h36 E => ?_)
    refine qt_iinc 2 (fun v37 => [(2, .int v37), (0, .ref (g.1 + 40)), (1, .ref (g.1 + 4))]) dX0_viewFromHills_37 rfl ci_1 (Nat.le_of_ble_eq_true rfl) (fun _ => rfl) E (fun v37 E => ?_)
    refine qt_goto 10 dX0_viewFromHills_40 (by decide) ?_
    cases E
    exact qt_sub _ [1, 2, 0] rfl (G)
noncomputable def f_X0_viewFromHills_b10_loop (x2 : Int32) (h : qa_M) : Option qa_M := qlp (fun sz : Int32 × qa_M => f_X0_viewFromHills_b10 sz.1 sz.2) (x2, h)
theorem s_X0_viewFromHills_b10_loop {l : Launch} {g : qa_G} {d : Nat} {rz : Option Value} {hz : qa_M} (x2 : Int32) (h : qa_M) {z : qa_M} (E : f_X0_viewFromHills_b10_loop x2 h = some z) (G : (qg_v rz hz) z) : qt_At l g (yX0_viewFromHills, cX0_viewFromHills, 3, none) d 0 0 10 [(0, .ref (g.1 + 40)), (1, .ref (g.1 + 4)), (2, .int x2)] [] h rz hz :=
  qlp_ind (fun sz : Int32 × qa_M => qt_At l g (yX0_viewFromHills, cX0_viewFromHills, 3, none) d 0 0 10 [(0, .ref (g.1 + 40)), (1, .ref (g.1 + 4)), (2, .int sz.1)] [] sz.2 rz hz) (fun sz E => s_X0_viewFromHills_b10 sz.1 sz.2 E G) (fun sz sz2 E ih => s_X0_viewFromHills_b10 sz.1 sz.2 E ih) (x2, h) E
noncomputable def m_X0_viewFromHills (h : qa_M) : Option qa_M :=
  qbd (qw_I h 40 0 (h.1 4 2)) (fun h5 : qa_M =>
  qbd (0 : Int32) (fun v9 : Int32 =>
  f_X0_viewFromHills_b10_loop v9 h5))
set_option maxRecDepth 20000 in
theorem c_X0_viewFromHills {l : Launch} {g : qa_G} {d : Nat} (h : qa_M) {h1 : qa_M} (E : m_X0_viewFromHills h = some h1) : qt_Met l g (yX0_viewFromHills, cX0_viewFromHills, 3, none) d 0 [.ref (g.1 + 40), .ref (g.1 + 4)] h none h1 := by
  refine qt_Met.of (plainFor_of_name (by decide)) (Nat.le_of_ble_eq_true rfl) ?_
  have G : qg_v none h1 (h1) := ⟨rfl, rfl⟩
  unfold m_X0_viewFromHills at E
  refine qt_aload_n 0 dX0_viewFromHills_0 rfl rfl ?_
  refine qt_aload_n 1 dX0_viewFromHills_1 rfl rfl ?_
  refine qt_getI (wl_4 h) fe_RX0_84 rfl dX0_viewFromHills_2 ?_
  refine qt_putI (wl_40 h) fd_RX0_87 rfl rfl rfl dX0_viewFromHills_5 E (fun h5 E => ?_)
  refine qt_iconst dX0_viewFromHills_8 ci_0 ?_
  refine qt_istore_n (fun v9 => [(2, .int v9), (0, .ref (g.1 + 40)), (1, .ref (g.1 + 4))]) dX0_viewFromHills_9 rfl (Nat.le_of_ble_eq_true rfl) (fun _ => rfl) E (fun v9 E => ?_)
  exact qt_sub _ [1, 2, 0] rfl ((s_X0_viewFromHills_b10_loop v9 h5 E G))
noncomputable def f_X0_viewFromSquares_b61 (x2 : Int32) (x3 : Int32) (h : qa_M) : Option ((Int32 × Int32 × qa_M) ⊕ qa_M) :=
  qbd (x3 + (1 : Int32)) (fun v61 : Int32 =>
  some (.inl (x2, v61, h)))
set_option maxRecDepth 20000 in
theorem s_X0_viewFromSquares_b61 {l : Launch} {g : qa_G} {d : Nat} {rz : Option Value} {hz : qa_M} (x2 : Int32) (x3 : Int32) (h : qa_M) {z : ((Int32 × Int32 × qa_M) ⊕ qa_M)} (E : f_X0_viewFromSquares_b61 x2 x3 h = some z) (G : (Sum.elim (fun (sz : Int32 × Int32 × qa_M) => qt_At l g (yX0_viewFromSquares, cX0_viewFromSquares, 4, none) (d + 3) 0 0 7 [(0, .ref (g.1 + 40)), (1, .ref (g.1 + 4)), (2, .int sz.1), (3, .int sz.2.1)] [] sz.2.2 rz hz) (qg_v rz hz)) z) : qt_At l g (yX0_viewFromSquares, cX0_viewFromSquares, 4, none) (d + 3) 0 0 61 [(0, .ref (g.1 + 40)), (1, .ref (g.1 + 4)), (2, .int x2), (3, .int x3)] [] h rz hz := by
  unfold f_X0_viewFromSquares_b61 at E
  refine qt_iinc 3 (fun v61 => [(3, .int v61), (0, .ref (g.1 + 40)), (1, .ref (g.1 + 4)), (2, .int x2)]) dX0_viewFromSquares_61 rfl ci_1 (Nat.le_of_ble_eq_true rfl) (fun _ => rfl) E (fun v61 E => ?_)
  refine qt_goto 7 dX0_viewFromSquares_64 (by decide) ?_
  cases E
  exact qt_sub _ [1, 2, 3, 0] rfl (G)
noncomputable def f_X0_viewFromSquares_b7 (x2 : Int32) (x3 : Int32) (h : qa_M) : Option ((Int32 × Int32 × qa_M) ⊕ qa_M) :=
  if (36 : Int32) ≤ x3 then (
   qup (some h))
  else (
   qbn (m_X3_open h) (fun (c14 : Int64) (h14 : qa_M) =>
   if ((q_lushr c14 x3) &&& (1 : Int64)) = (0 : Int64) then (
    f_X0_viewFromSquares_b61 x2 x3 h14)
   else (
    qbn (m_X3_view 4 x3 x2 h14) (fun (c37 : Int64) (h37 : qa_M) =>
    qck (h14.1 40 0) 36 (
    qbd (qw_J h37 41 (h14.1 40 0).toNatClampNeg c37) (fun h40 : qa_M =>
    qck (h40.1 40 0) 36 (
    qbd (qw_I h40 42 (h40.1 40 0).toNatClampNeg x3) (fun h50 : qa_M =>
    qbd (qw_I h50 40 0 ((h50.1 40 0) + (1 : Int32))) (fun h58 : qa_M =>
    f_X0_viewFromSquares_b61 x2 x3 h58)))))))))
set_option maxRecDepth 20000 in
theorem s_X0_viewFromSquares_b7 {l : Launch} {g : qa_G} {d : Nat} {rz : Option Value} {hz : qa_M} (x2 : Int32) (x3 : Int32) (h : qa_M) {z : ((Int32 × Int32 × qa_M) ⊕ qa_M)} (E : f_X0_viewFromSquares_b7 x2 x3 h = some z) (G : (Sum.elim (fun (sz : Int32 × Int32 × qa_M) => qt_At l g (yX0_viewFromSquares, cX0_viewFromSquares, 4, none) (d + 3) 0 0 7 [(0, .ref (g.1 + 40)), (1, .ref (g.1 + 4)), (2, .int sz.1), (3, .int sz.2.1)] [] sz.2.2 rz hz) (qg_v rz hz)) z) : qt_At l g (yX0_viewFromSquares, cX0_viewFromSquares, 4, none) (d + 3) 0 0 7 [(0, .ref (g.1 + 40)), (1, .ref (g.1 + 4)), (2, .int x2), (3, .int x3)] [] h rz hz := by
  unfold f_X0_viewFromSquares_b7 at E
  refine qt_iload_n 3 dX0_viewFromSquares_7 rfl rfl ?_
  refine qt_bipush dX0_viewFromSquares_8 cb_36 ?_
  refine qt_icmp_ge 67 dX0_viewFromSquares_10 (by decide) E (fun E => ?_) (fun E => ?_)
  · obtain ⟨z0_, E, G⟩ := qup_g E G
    exact qt_vreturn rfl (Nat.le_of_ble_eq_true rfl) dX0_viewFromSquares_67 E G
  · refine qt_aload_n 1 dX0_viewFromSquares_13 rfl rfl ?_
    obtain ⟨c14, h14, e14, E⟩ := qbn_el E
    refine qt_callVl (b2 := 0) [] (c_X3_open h e14) cv_RX0_93 (wl_4 h) rfl rfl rfl (Nat.le_of_ble_eq_true rfl) (Nat.le_of_ble_eq_true rfl) dX0_viewFromSquares_14 ?_
    refine qt_iload_n 3 dX0_viewFromSquares_17 rfl rfl ?_
    refine qt_lushr dX0_viewFromSquares_18 ?_
    refine qt_lconst dX0_viewFromSquares_19 cl_1 ?_
    refine qt_land dX0_viewFromSquares_20 ?_
    refine qt_lconst dX0_viewFromSquares_21 cl_0 ?_
    refine qt_lc_eq 61 dX0_viewFromSquares_22 dX0_viewFromSquares_23 (by decide) E (fun E => ?_) (fun E => ?_)
    · exact qt_sub _ [0, 1, 2, 3] rfl ((s_X0_viewFromSquares_b61 x2 x3 h14 E G))
    · refine qt_aload_n 0 dX0_viewFromSquares_26 rfl rfl ?_
      refine qt_getS 41 (wl_40 h14) fe_RX0_9 rfl dX0_viewFromSquares_27 ?_
      refine qt_aload_n 0 dX0_viewFromSquares_30 rfl rfl ?_
      refine qt_getI (wl_40 h14) fe_RX0_87 rfl dX0_viewFromSquares_31 ?_
      refine qt_aload_n 1 dX0_viewFromSquares_34 rfl rfl ?_
      refine qt_iload_n 3 dX0_viewFromSquares_35 rfl rfl ?_
      refine qt_iload_n 2 dX0_viewFromSquares_36 rfl rfl ?_
      obtain ⟨c37, h37, e37, E⟩ := qbn_el E
      refine qt_callVl (b2 := 0) [.int x3, .int x2] (c_X3_view 4 x3 x2 h14 (show qLand 4 by unfold qLand; decide) e37) cv_RX0_97 (wl_4 h14) rfl rfl rfl (Nat.le_of_ble_eq_true rfl) (Nat.le_of_ble_eq_true rfl) dX0_viewFromSquares_37 ?_
      refine qt_last (wl_41 h37) dX0_viewFromSquares_40 E (fun h40 E => ?_)
      refine qt_aload_n 0 dX0_viewFromSquares_41 rfl rfl ?_
      refine qt_getS 42 (wl_40 h40) fe_RX0_15 rfl dX0_viewFromSquares_42 ?_
      refine qt_aload_n 0 dX0_viewFromSquares_45 rfl rfl ?_
      refine qt_getI (wl_40 h40) fe_RX0_87 rfl dX0_viewFromSquares_46 ?_
      refine qt_iload_n 3 dX0_viewFromSquares_49 rfl rfl ?_
      refine qt_iast (wl_42 h40) dX0_viewFromSquares_50 E (fun h50 E => ?_)
      refine qt_aload_n 0 dX0_viewFromSquares_51 rfl rfl ?_
      refine qt_dup dX0_viewFromSquares_52 rfl ?_
      refine qt_getI (wl_40 h50) fe_RX0_87 rfl dX0_viewFromSquares_53 ?_
      refine qt_iconst dX0_viewFromSquares_56 ci_1 ?_
      refine qt_iadd dX0_viewFromSquares_57 ?_
      refine qt_putI (wl_40 h50) fd_RX0_87 rfl rfl rfl dX0_viewFromSquares_58 E (fun h58 E => ?_)
      exact qt_sub _ [0, 1, 2, 3] rfl ((s_X0_viewFromSquares_b61 x2 x3 h58 E G))
noncomputable def f_X0_viewFromSquares_b7_loop (x2 : Int32) (x3 : Int32) (h : qa_M) : Option qa_M := qlp (fun sz : Int32 × Int32 × qa_M => f_X0_viewFromSquares_b7 sz.1 sz.2.1 sz.2.2) (x2, x3, h)
theorem s_X0_viewFromSquares_b7_loop {l : Launch} {g : qa_G} {d : Nat} {rz : Option Value} {hz : qa_M} (x2 : Int32) (x3 : Int32) (h : qa_M) {z : qa_M} (E : f_X0_viewFromSquares_b7_loop x2 x3 h = some z) (G : (qg_v rz hz) z) : qt_At l g (yX0_viewFromSquares, cX0_viewFromSquares, 4, none) (d + 3) 0 0 7 [(0, .ref (g.1 + 40)), (1, .ref (g.1 + 4)), (2, .int x2), (3, .int x3)] [] h rz hz :=
  qlp_ind (fun sz : Int32 × Int32 × qa_M => qt_At l g (yX0_viewFromSquares, cX0_viewFromSquares, 4, none) (d + 3) 0 0 7 [(0, .ref (g.1 + 40)), (1, .ref (g.1 + 4)), (2, .int sz.1), (3, .int sz.2.1)] [] sz.2.2 rz hz) (fun sz E => s_X0_viewFromSquares_b7 sz.1 sz.2.1 sz.2.2 E G) (fun sz sz2 E ih => s_X0_viewFromSquares_b7 sz.1 sz.2.1 sz.2.2 E ih) (x2, x3, h) E
noncomputable def m_X0_viewFromSquares (x2 : Int32) (h : qa_M) : Option qa_M :=
  qbd (qw_I h 40 0 (0 : Int32)) (fun h2 : qa_M =>
  qbd (0 : Int32) (fun v6 : Int32 =>
  f_X0_viewFromSquares_b7_loop x2 v6 h2))
set_option maxRecDepth 20000 in
theorem c_X0_viewFromSquares {l : Launch} {g : qa_G} {d : Nat} (x2 : Int32) (h : qa_M) {h1 : qa_M} (E : m_X0_viewFromSquares x2 h = some h1) : qt_Met l g (yX0_viewFromSquares, cX0_viewFromSquares, 4, none) (d + 3) 0 [.ref (g.1 + 40), .ref (g.1 + 4), .int x2] h none h1 := by
  refine qt_Met.of (plainFor_of_name (by decide)) (Nat.le_of_ble_eq_true rfl) ?_
  have G : qg_v none h1 (h1) := ⟨rfl, rfl⟩
  unfold m_X0_viewFromSquares at E
  refine qt_aload_n 0 dX0_viewFromSquares_0 rfl rfl ?_
  refine qt_iconst dX0_viewFromSquares_1 ci_0 ?_
  refine qt_putI (wl_40 h) fd_RX0_87 rfl rfl rfl dX0_viewFromSquares_2 E (fun h2 E => ?_)
  refine qt_iconst dX0_viewFromSquares_5 ci_0 ?_
  refine qt_istore_n (fun v6 => [(3, .int v6), (0, .ref (g.1 + 40)), (1, .ref (g.1 + 4)), (2, .int x2)]) dX0_viewFromSquares_6 rfl (Nat.le_of_ble_eq_true rfl) (fun _ => rfl) E (fun v6 E => ?_)
  exact qt_sub _ [1, 2, 3, 0] rfl ((s_X0_viewFromSquares_b7_loop x2 v6 h2 E G))
noncomputable def f_X7_sortsOn_b5 (x1 : Int64) (x3 : Int32) (x4 : Int32) (h : qa_M) : Option ((Int64 × Int32 × Int32 × qa_M) ⊕ (Int32 × qa_M)) :=
  if ((h.1 22 4) - (1 : Int32)) ≤ x4 then (
   qup (some (x3, h)))
  else (
   qck x4 4 (
   qck x4 4 (
   qbd (x3 ||| ((((q_lushr x1 (h.1 31 x4.toNatClampNeg)) &&& (1 : Int64)).toInt32) <<< ((h.1 26 x4.toNatClampNeg) &&& 31))) (fun v38 : Int32 =>
   qbd (x4 + (1 : Int32)) (fun v39 : Int32 =>
   some (.inl (x1, v38, v39, h)))))))
set_option maxRecDepth 20000 in
theorem s_X7_sortsOn_b5 {l : Launch} {g : qa_G} {d : Nat} {rz : Option Value} {hz : qa_M} (x1 : Int64) (x3 : Int32) (x4 : Int32) (h : qa_M) {z : ((Int64 × Int32 × Int32 × qa_M) ⊕ (Int32 × qa_M))} (E : f_X7_sortsOn_b5 x1 x3 x4 h = some z) (G : (Sum.elim (fun (sz : Int64 × Int32 × Int32 × qa_M) => qt_At l g (yX7_sortsOn, cX7_sortsOn, 5, (some .int)) d 0 0 5 [(0, .ref (g.1 + 22)), (1, .long sz.1), (3, .int sz.2.1), (4, .int sz.2.2.1)] [] sz.2.2.2 rz hz) (qg_i rz hz)) z) : qt_At l g (yX7_sortsOn, cX7_sortsOn, 5, (some .int)) d 0 0 5 [(0, .ref (g.1 + 22)), (1, .long x1), (3, .int x3), (4, .int x4)] [] h rz hz := by
  unfold f_X7_sortsOn_b5 at E
  refine qt_iload 3 dX7_sortsOn_5 rfl ?_
  refine qt_aload_n 0 dX7_sortsOn_7 rfl rfl ?_
  refine qt_getI (wl_22 h) fe_RX7_62 rfl dX7_sortsOn_8 ?_
  refine qt_iconst dX7_sortsOn_11 ci_1 ?_
  refine qt_isub dX7_sortsOn_12 ?_
  refine qt_icmp_ge 45 dX7_sortsOn_13 (by decide) E (fun E => ?_) (fun E => ?_)
  · refine qt_iload_n 2 dX7_sortsOn_45 rfl rfl ?_
    obtain ⟨z0_, E, G⟩ := qup_g E G
    exact qt_ireturn rfl (Nat.le_of_ble_eq_true rfl) dX7_sortsOn_46 E G
  · refine qt_iload_n 2 dX7_sortsOn_16 rfl rfl ?_
    refine qt_lload_n 1 dX7_sortsOn_17 rfl rfl ?_
    refine qt_aload_n 0 dX7_sortsOn_18 rfl rfl ?_
    refine qt_getS 31 (wl_22 h) fe_RX7_37 rfl dX7_sortsOn_19 ?_
    refine qt_iload 3 dX7_sortsOn_22 rfl ?_
    refine qt_iald (wl_31 h) dX7_sortsOn_24 E (fun E => ?_)
    refine qt_lushr dX7_sortsOn_25 ?_
    refine qt_lconst dX7_sortsOn_26 cl_1 ?_
    refine qt_land dX7_sortsOn_27 ?_
    refine qt_l2i dX7_sortsOn_28 ?_
    refine qt_aload_n 0 dX7_sortsOn_29 rfl rfl ?_
    refine qt_getS 26 (wl_22 h) fe_RX7_22 rfl dX7_sortsOn_30 ?_
    refine qt_iload 3 dX7_sortsOn_33 rfl ?_
    refine qt_iald (wl_26 h) dX7_sortsOn_35 E (fun E => ?_)
    refine qt_ishl dX7_sortsOn_36 ?_
    refine qt_ior dX7_sortsOn_37 ?_
    refine qt_istore_n (fun v38 => [(3, .int v38), (0, .ref (g.1 + 22)), (1, .long x1), (4, .int x4)]) dX7_sortsOn_38 rfl (Nat.le_of_ble_eq_true rfl) (fun _ => rfl) E (fun v38 E => ?_)
    refine qt_iinc 3 (fun v39 => [(4, .int v39), (3, .int v38), (0, .ref (g.1 + 22)), (1, .long x1)]) dX7_sortsOn_39 rfl ci_1 (Nat.le_of_ble_eq_true rfl) (fun _ => rfl) E (fun v39 E => ?_)
    refine qt_goto 5 dX7_sortsOn_42 (by decide) ?_
    cases E
    exact qt_sub _ [2, 3, 1, 0] rfl (G)
noncomputable def f_X7_sortsOn_b5_loop (x1 : Int64) (x3 : Int32) (x4 : Int32) (h : qa_M) : Option (Int32 × qa_M) := qlp (fun sz : Int64 × Int32 × Int32 × qa_M => f_X7_sortsOn_b5 sz.1 sz.2.1 sz.2.2.1 sz.2.2.2) (x1, x3, x4, h)
theorem s_X7_sortsOn_b5_loop {l : Launch} {g : qa_G} {d : Nat} {rz : Option Value} {hz : qa_M} (x1 : Int64) (x3 : Int32) (x4 : Int32) (h : qa_M) {z : (Int32 × qa_M)} (E : f_X7_sortsOn_b5_loop x1 x3 x4 h = some z) (G : (qg_i rz hz) z) : qt_At l g (yX7_sortsOn, cX7_sortsOn, 5, (some .int)) d 0 0 5 [(0, .ref (g.1 + 22)), (1, .long x1), (3, .int x3), (4, .int x4)] [] h rz hz :=
  qlp_ind (fun sz : Int64 × Int32 × Int32 × qa_M => qt_At l g (yX7_sortsOn, cX7_sortsOn, 5, (some .int)) d 0 0 5 [(0, .ref (g.1 + 22)), (1, .long sz.1), (3, .int sz.2.1), (4, .int sz.2.2.1)] [] sz.2.2.2 rz hz) (fun sz E => s_X7_sortsOn_b5 sz.1 sz.2.1 sz.2.2.1 sz.2.2.2 E G) (fun sz sz2 E ih => s_X7_sortsOn_b5 sz.1 sz.2.1 sz.2.2.1 sz.2.2.2 E ih) (x1, x3, x4, h) E
noncomputable def m_X7_sortsOn (x1 : Int64) (h : qa_M) : Option (Int32 × qa_M) :=
  qbd (0 : Int32) (fun v1 : Int32 =>
  qbd (0 : Int32) (fun v3 : Int32 =>
  f_X7_sortsOn_b5_loop x1 v1 v3 h))
set_option maxRecDepth 20000 in
theorem c_X7_sortsOn {l : Launch} {g : qa_G} {d : Nat} (x1 : Int64) (h : qa_M) {c : Int32} {h1 : qa_M} (E : m_X7_sortsOn x1 h = some (c, h1)) : qt_Met l g (yX7_sortsOn, cX7_sortsOn, 5, (some .int)) d 0 [.ref (g.1 + 22), .long x1] h (some (.int c)) h1 := by
  refine qt_Met.of (plainFor_of_name (by decide)) (Nat.le_of_ble_eq_true rfl) ?_
  have G : qg_i (some (.int c)) h1 ((c, h1)) := ⟨rfl, rfl⟩
  unfold m_X7_sortsOn at E
  refine qt_iconst dX7_sortsOn_0 ci_0 ?_
  refine qt_istore_n (fun v1 => [(3, .int v1), (0, .ref (g.1 + 22)), (1, .long x1)]) dX7_sortsOn_1 rfl (Nat.le_of_ble_eq_true rfl) (fun _ => rfl) E (fun v1 E => ?_)
  refine qt_iconst dX7_sortsOn_2 ci_0 ?_
  refine qt_istore (fun v3 => [(4, .int v3), (3, .int v1), (0, .ref (g.1 + 22)), (1, .long x1)]) dX7_sortsOn_3 (Nat.le_of_ble_eq_true rfl) (fun _ => rfl) E (fun v3 E => ?_)
  exact qt_sub _ [2, 3, 1, 0] rfl ((s_X7_sortsOn_b5_loop x1 v1 v3 h E G))
noncomputable def f_X0_countViews_b19 (x2 : Int32) (x3 : Int32) (x4 : Int32) (x5 : Int32) (h : qa_M) : Option ((Int32 × Int32 × Int32 × Int32 × qa_M) ⊕ qa_M) :=
  if (h.1 40 0) ≤ x5 then (
   qup (some h))
  else (
   qck x5 36 (
   qbn (m_J13_bitCount_95d88 ((h.2.1 22 15) &&& (h.2.1 41 x5.toNatClampNeg)) h) (fun (c40 : Int32) (h40 : qa_M) =>
   qbd c40 (fun v43 : Int32 =>
   qck x5 36 (
   qbn (m_X7_sortsOn (h40.2.1 41 x5.toNatClampNeg) h40) (fun (c54 : Int32) (h54 : qa_M) =>
   qbd (x2 &&& (c54 ^^^ (-1 : Int32))) (fun v60 : Int32 =>
   qck ((x5 * (16 : Int32)) + v60) 576 (
   qck ((x5 * (16 : Int32)) + v60) 576 (
   qbd (qw_I h54 43 ((x5 * (16 : Int32)) + v60).toNatClampNeg ((h54.1 43 ((x5 * (16 : Int32)) + v60).toNatClampNeg) + (x3 - v43))) (fun h81 : qa_M =>
   qck ((x5 * (16 : Int32)) + (v60 &&& (x4 ^^^ (-1 : Int32)))) 576 (
   qck ((x5 * (16 : Int32)) + (v60 &&& (x4 ^^^ (-1 : Int32)))) 576 (
   qbd (qw_I h81 43 ((x5 * (16 : Int32)) + (v60 &&& (x4 ^^^ (-1 : Int32)))).toNatClampNeg ((h81.1 43 ((x5 * (16 : Int32)) + (v60 &&& (x4 ^^^ (-1 : Int32)))).toNatClampNeg) + v43)) (fun h104 : qa_M =>
   qbd (x5 + (1 : Int32)) (fun v105 : Int32 =>
   some (.inl (x2, x3, x4, v105, h104))))))))))))))))
set_option maxRecDepth 20000 in
theorem s_X0_countViews_b19 {l : Launch} {g : qa_G} {d : Nat} {rz : Option Value} {hz : qa_M} (x2 : Int32) (x3 : Int32) (x4 : Int32) (x5 : Int32) (h : qa_M) {z : ((Int32 × Int32 × Int32 × Int32 × qa_M) ⊕ qa_M)} (E : f_X0_countViews_b19 x2 x3 x4 x5 h = some z) (G : (Sum.elim (fun (sz : Int32 × Int32 × Int32 × Int32 × qa_M) => qt_At l g (yX0_countViews, cX0_countViews, 8, none) (d + 1) 0 0 19 [(0, .ref (g.1 + 40)), (1, .ref (g.1 + 22)), (2, .int sz.1), (3, .int sz.2.1), (4, .int sz.2.2.1), (5, .int sz.2.2.2.1)] [] sz.2.2.2.2 rz hz) (qg_v rz hz)) z) : qt_At l g (yX0_countViews, cX0_countViews, 8, none) (d + 1) 0 0 19 [(0, .ref (g.1 + 40)), (1, .ref (g.1 + 22)), (2, .int x2), (3, .int x3), (4, .int x4), (5, .int x5)] [] h rz hz := by
  unfold f_X0_countViews_b19 at E
  refine qt_iload 5 dX0_countViews_19 rfl ?_
  refine qt_aload_n 0 dX0_countViews_21 rfl rfl ?_
  refine qt_getI (wl_40 h) fe_RX0_87 rfl dX0_countViews_22 ?_
  refine qt_icmp_ge 111 dX0_countViews_25 (by decide) E (fun E => ?_) (fun E => ?_)
  · obtain ⟨z0_, E, G⟩ := qup_g E G
    exact qt_vreturn rfl (Nat.le_of_ble_eq_true rfl) dX0_countViews_111 E G
  · refine qt_aload_n 1 dX0_countViews_28 rfl rfl ?_
    refine qt_getJ (wl_22 h) fe_RX0_100 rfl dX0_countViews_29 ?_
    refine qt_aload_n 0 dX0_countViews_32 rfl rfl ?_
    refine qt_getS 41 (wl_40 h) fe_RX0_9 rfl dX0_countViews_33 ?_
    refine qt_iload 5 dX0_countViews_36 rfl ?_
    refine qt_lald (wl_41 h) dX0_countViews_38 E (fun E => ?_)
    refine qt_land dX0_countViews_39 ?_
    obtain ⟨c40, h40, e40, E⟩ := qbn_el E
    refine qt_callSi (b2 := 0) [.long ((h.2.1 22 15) &&& (h.2.1 41 x5.toNatClampNeg))] (c_J13_bitCount_95d88 ((h.2.1 22 15) &&& (h.2.1 41 x5.toNatClampNeg)) h e40) cv_RX0_104 rfl (Nat.le_of_ble_eq_true rfl) (Nat.le_of_ble_eq_true rfl) dX0_countViews_40 ?_
    refine qt_istore (fun v43 => [(6, .int v43), (0, .ref (g.1 + 40)), (1, .ref (g.1 + 22)), (2, .int x2), (3, .int x3), (4, .int x4), (5, .int x5)]) dX0_countViews_43 (Nat.le_of_ble_eq_true rfl) (fun _ => rfl) E (fun v43 E => ?_)
    refine qt_iload_n 3 dX0_countViews_45 rfl rfl ?_
    refine qt_aload_n 2 dX0_countViews_46 rfl rfl ?_
    refine qt_aload_n 1 dX0_countViews_47 rfl rfl ?_
    refine qt_getS 41 (wl_40 h40) fe_RX0_9 rfl dX0_countViews_48 ?_
    refine qt_iload 6 dX0_countViews_51 rfl ?_
    refine qt_lald (wl_41 h40) dX0_countViews_53 E (fun E => ?_)
    obtain ⟨c54, h54, e54, E⟩ := qbn_el E
    refine qt_callVi (b2 := 0) [.long (h40.2.1 41 x5.toNatClampNeg)] (c_X7_sortsOn (h40.2.1 41 x5.toNatClampNeg) h40 e54) cv_RX0_114 (wl_22 h40) rfl rfl rfl (Nat.le_of_ble_eq_true rfl) (Nat.le_of_ble_eq_true rfl) dX0_countViews_54 ?_
    refine qt_iconst dX0_countViews_57 ci_m1 ?_
    refine qt_ixor dX0_countViews_58 ?_
    refine qt_iand dX0_countViews_59 ?_
    refine qt_istore (fun v60 => [(7, .int v60), (6, .int v43), (0, .ref (g.1 + 40)), (1, .ref (g.1 + 22)), (2, .int x2), (3, .int x3), (4, .int x4), (5, .int x5)]) dX0_countViews_60 (Nat.le_of_ble_eq_true rfl) (fun _ => rfl) E (fun v60 E => ?_)
    refine qt_aload_n 2 dX0_countViews_62 rfl rfl ?_
    refine qt_getS 43 (wl_40 h54) fe_RX0_19 rfl dX0_countViews_63 ?_
    refine qt_iload 7 dX0_countViews_66 rfl ?_
    refine qt_bipush dX0_countViews_68 cb_16 ?_
    refine qt_imul dX0_countViews_70 ?_
    refine qt_iload 0 dX0_countViews_71 rfl ?_
    refine qt_iadd dX0_countViews_73 ?_
    refine qt_dup2_11 dX0_countViews_74 rfl rfl ?_
    refine qt_iald (wl_43 h54) dX0_countViews_75 E (fun E => ?_)
    refine qt_iload_n 5 dX0_countViews_76 rfl rfl ?_
    refine qt_iload 1 dX0_countViews_77 rfl ?_
    refine qt_isub dX0_countViews_79 ?_
    refine qt_iadd dX0_countViews_80 ?_
    refine qt_iast (wl_43 h54) dX0_countViews_81 E (fun h81 E => ?_)
    refine qt_aload_n 2 dX0_countViews_82 rfl rfl ?_
    refine qt_getS 43 (wl_40 h81) fe_RX0_19 rfl dX0_countViews_83 ?_
    refine qt_iload 7 dX0_countViews_86 rfl ?_
    refine qt_bipush dX0_countViews_88 cb_16 ?_
    refine qt_imul dX0_countViews_90 ?_
    refine qt_iload 0 dX0_countViews_91 rfl ?_
    refine qt_iload 6 dX0_countViews_93 rfl ?_
    refine qt_iconst dX0_countViews_95 ci_m1 ?_
    refine qt_ixor dX0_countViews_96 ?_
    refine qt_iand dX0_countViews_97 ?_
    refine qt_iadd dX0_countViews_98 ?_
    refine qt_dup2_11 dX0_countViews_99 rfl rfl ?_
    refine qt_iald (wl_43 h81) dX0_countViews_100 E (fun E => ?_)
    refine qt_iload 1 dX0_countViews_101 rfl ?_
    refine qt_iadd dX0_countViews_103 ?_
    refine qt_iast (wl_43 h81) dX0_countViews_104 E (fun h104 E => ?_)
    refine qt_iinc 7 (fun v105 => [(5, .int v105), (7, .int v60), (6, .int v43), (0, .ref (g.1 + 40)), (1, .ref (g.1 + 22)), (2, .int x2), (3, .int x3), (4, .int x4)]) dX0_countViews_105 rfl ci_1 (Nat.le_of_ble_eq_true rfl) (fun _ => rfl) E (fun v105 E => ?_)
    refine qt_goto 19 dX0_countViews_108 (by decide) ?_
    cases E
    exact qt_sub _ [3, 4, 5, 6, 7, 0] rfl (G)
noncomputable def f_X0_countViews_b19_loop (x2 : Int32) (x3 : Int32) (x4 : Int32) (x5 : Int32) (h : qa_M) : Option qa_M := qlp (fun sz : Int32 × Int32 × Int32 × Int32 × qa_M => f_X0_countViews_b19 sz.1 sz.2.1 sz.2.2.1 sz.2.2.2.1 sz.2.2.2.2) (x2, x3, x4, x5, h)
theorem s_X0_countViews_b19_loop {l : Launch} {g : qa_G} {d : Nat} {rz : Option Value} {hz : qa_M} (x2 : Int32) (x3 : Int32) (x4 : Int32) (x5 : Int32) (h : qa_M) {z : qa_M} (E : f_X0_countViews_b19_loop x2 x3 x4 x5 h = some z) (G : (qg_v rz hz) z) : qt_At l g (yX0_countViews, cX0_countViews, 8, none) (d + 1) 0 0 19 [(0, .ref (g.1 + 40)), (1, .ref (g.1 + 22)), (2, .int x2), (3, .int x3), (4, .int x4), (5, .int x5)] [] h rz hz :=
  qlp_ind (fun sz : Int32 × Int32 × Int32 × Int32 × qa_M => qt_At l g (yX0_countViews, cX0_countViews, 8, none) (d + 1) 0 0 19 [(0, .ref (g.1 + 40)), (1, .ref (g.1 + 22)), (2, .int sz.1), (3, .int sz.2.1), (4, .int sz.2.2.1), (5, .int sz.2.2.2.1)] [] sz.2.2.2.2 rz hz) (fun sz E => s_X0_countViews_b19 sz.1 sz.2.1 sz.2.2.1 sz.2.2.2.1 sz.2.2.2.2 E G) (fun sz sz2 E ih => s_X0_countViews_b19 sz.1 sz.2.1 sz.2.2.1 sz.2.2.2.1 sz.2.2.2.2 E ih) (x2, x3, x4, x5, h) E
noncomputable def m_X0_countViews (x2 : Int32) (h : qa_M) : Option qa_M :=
  qbn (m_J13_bitCount_95d88 (h.2.1 22 15) h) (fun (c4 : Int32) (h4 : qa_M) =>
  qbd c4 (fun v7 : Int32 =>
  qbn (m_X7_lastSort h4) (fun (c10 : Int32) (h10 : qa_M) =>
  qbd ((1 : Int32) <<< (c10 &&& 31)) (fun v14 : Int32 =>
  qbd (0 : Int32) (fun v17 : Int32 =>
  f_X0_countViews_b19_loop x2 v7 v14 v17 h10)))))
set_option maxRecDepth 20000 in
theorem c_X0_countViews {l : Launch} {g : qa_G} {d : Nat} (x2 : Int32) (h : qa_M) {h1 : qa_M} (E : m_X0_countViews x2 h = some h1) : qt_Met l g (yX0_countViews, cX0_countViews, 8, none) (d + 1) 0 [.ref (g.1 + 40), .ref (g.1 + 22), .int x2] h none h1 := by
  refine qt_Met.of (plainFor_of_name (by decide)) (Nat.le_of_ble_eq_true rfl) ?_
  have G : qg_v none h1 (h1) := ⟨rfl, rfl⟩
  unfold m_X0_countViews at E
  refine qt_aload_n 1 dX0_countViews_0 rfl rfl ?_
  refine qt_getJ (wl_22 h) fe_RX0_100 rfl dX0_countViews_1 ?_
  obtain ⟨c4, h4, e4, E⟩ := qbn_el E
  refine qt_callSi (b2 := 0) [.long (h.2.1 22 15)] (c_J13_bitCount_95d88 (h.2.1 22 15) h e4) cv_RX0_104 rfl (Nat.le_of_ble_eq_true rfl) (Nat.le_of_ble_eq_true rfl) dX0_countViews_4 ?_
  refine qt_istore_n (fun v7 => [(3, .int v7), (0, .ref (g.1 + 40)), (1, .ref (g.1 + 22)), (2, .int x2)]) dX0_countViews_7 rfl (Nat.le_of_ble_eq_true rfl) (fun _ => rfl) E (fun v7 E => ?_)
  refine qt_iconst dX0_countViews_8 ci_1 ?_
  refine qt_aload_n 2 dX0_countViews_9 rfl rfl ?_
  obtain ⟨c10, h10, e10, E⟩ := qbn_el E
  refine qt_callVi (b2 := 0) [] (c_X7_lastSort h4 e10) cv_RX0_110 (wl_22 h4) rfl rfl rfl (Nat.le_of_ble_eq_true rfl) (Nat.le_of_ble_eq_true rfl) dX0_countViews_10 ?_
  refine qt_ishl dX0_countViews_13 ?_
  refine qt_istore (fun v14 => [(4, .int v14), (3, .int v7), (0, .ref (g.1 + 40)), (1, .ref (g.1 + 22)), (2, .int x2)]) dX0_countViews_14 (Nat.le_of_ble_eq_true rfl) (fun _ => rfl) E (fun v14 E => ?_)
  refine qt_iconst dX0_countViews_16 ci_0 ?_
  refine qt_istore (fun v17 => [(5, .int v17), (4, .int v14), (3, .int v7), (0, .ref (g.1 + 40)), (1, .ref (g.1 + 22)), (2, .int x2)]) dX0_countViews_17 (Nat.le_of_ble_eq_true rfl) (fun _ => rfl) E (fun v17 E => ?_)
  exact qt_sub _ [3, 4, 5, 2, 1, 0] rfl ((s_X0_countViews_b19_loop x2 v7 v14 v17 h10 E G))
noncomputable def f_X0_look_b90 (x6 : Int32) (x7 : Int32) (h : qa_M) : Option ((Int32 × Int32 × qa_M) ⊕ qa_M) :=
  if (2000000 : Int32) ≤ x7 then (
   qup (some h))
  else (
   qbn (m_X7_step h) (fun (c98 : Int32) (h98 : qa_M) =>
   if c98 = 0 then (
    qup (some h98))
   else (
    qbv (m_X0_countViews x6 h98) (fun h108 : qa_M =>
    qbd (x7 + (1 : Int32)) (fun v111 : Int32 =>
    some (.inl (x6, v111, h108)))))))
set_option maxRecDepth 20000 in
theorem s_X0_look_b90 {l : Launch} {g : qa_G} {d : Nat} {rz : Option Value} {hz : qa_M} (x6 : Int32) (x7 : Int32) (h : qa_M) {z : ((Int32 × Int32 × qa_M) ⊕ qa_M)} (E : f_X0_look_b90 x6 x7 h = some z) (G : (Sum.elim (fun (sz : Int32 × Int32 × qa_M) => qt_At l g (yX0_look, cX0_look, 8, none) (d + 4) 0 0 90 [(0, .ref (g.1 + 40)), (1, .ref (g.1 + 22)), (6, .int sz.1), (7, .int sz.2.1)] [] sz.2.2 rz hz) (qg_v rz hz)) z) : qt_At l g (yX0_look, cX0_look, 8, none) (d + 4) 0 0 90 [(0, .ref (g.1 + 40)), (1, .ref (g.1 + 22)), (6, .int x6), (7, .int x7)] [] h rz hz := by
  unfold f_X0_look_b90 at E
  refine qt_iload 3 dX0_look_90 rfl ?_
  refine qt_ldc tb_1196 dX0_look_92 ?_
  refine qt_icmp_ge 117 dX0_look_94 (by decide) E (fun E => ?_) (fun E => ?_)
  · obtain ⟨z0_, E, G⟩ := qup_g E G
    exact qt_vreturn rfl (Nat.le_of_ble_eq_true rfl) dX0_look_117 E G
  · refine qt_aload_n 1 dX0_look_97 rfl rfl ?_
    obtain ⟨c98, h98, e98, E⟩ := qbn_el E
    refine qt_callVi (b2 := 0) [] (c_X7_step h e98) cv_RX0_76 (wl_22 h) rfl rfl rfl (Nat.le_of_ble_eq_true rfl) (Nat.le_of_ble_eq_true rfl) dX0_look_98 ?_
    refine qt_if_eq 117 dX0_look_101 (by decide) E (fun E => ?_) (fun E => ?_)
    · obtain ⟨z0_, E, G⟩ := qup_g E G
      exact qt_vreturn rfl (Nat.le_of_ble_eq_true rfl) dX0_look_117 E G
    · refine qt_aload_n 0 dX0_look_104 rfl rfl ?_
      refine qt_aload_n 1 dX0_look_105 rfl rfl ?_
      refine qt_iload 2 dX0_look_106 rfl ?_
      obtain ⟨h108, e108, E⟩ := qbv_el E
      refine qt_callVv (b2 := 0) [.ref (g.1 + 22), .int x6] (c_X0_countViews x6 h98 e108) cv_RX0_80 (wl_40 h98) rfl rfl rfl (Nat.le_of_ble_eq_true rfl) (Nat.le_of_ble_eq_true rfl) dX0_look_108 ?_
      refine qt_iinc 3 (fun v111 => [(7, .int v111), (0, .ref (g.1 + 40)), (1, .ref (g.1 + 22)), (6, .int x6)]) dX0_look_111 rfl ci_1 (Nat.le_of_ble_eq_true rfl) (fun _ => rfl) E (fun v111 E => ?_)
      refine qt_goto 90 dX0_look_114 (by decide) ?_
      cases E
      exact qt_sub _ [1, 2, 3, 0] rfl (G)
noncomputable def f_X0_look_b90_loop (x6 : Int32) (x7 : Int32) (h : qa_M) : Option qa_M := qlp (fun sz : Int32 × Int32 × qa_M => f_X0_look_b90 sz.1 sz.2.1 sz.2.2) (x6, x7, h)
theorem s_X0_look_b90_loop {l : Launch} {g : qa_G} {d : Nat} {rz : Option Value} {hz : qa_M} (x6 : Int32) (x7 : Int32) (h : qa_M) {z : qa_M} (E : f_X0_look_b90_loop x6 x7 h = some z) (G : (qg_v rz hz) z) : qt_At l g (yX0_look, cX0_look, 8, none) (d + 4) 0 0 90 [(0, .ref (g.1 + 40)), (1, .ref (g.1 + 22)), (6, .int x6), (7, .int x7)] [] h rz hz :=
  qlp_ind (fun sz : Int32 × Int32 × qa_M => qt_At l g (yX0_look, cX0_look, 8, none) (d + 4) 0 0 90 [(0, .ref (g.1 + 40)), (1, .ref (g.1 + 22)), (6, .int sz.1), (7, .int sz.2.1)] [] sz.2.2 rz hz) (fun sz E => s_X0_look_b90 sz.1 sz.2.1 sz.2.2 E G) (fun sz sz2 E ih => s_X0_look_b90 sz.1 sz.2.1 sz.2.2 E ih) (x6, x7, h) E
noncomputable def f_X0_look_b64 (x3 : Int32) (h : qa_M) : Option qa_M :=
  qbv (m_J7_fill_53178 43 (0 : Int32) h) (fun h69 : qa_M =>
  qbv (m_X7_start x3 h69) (fun h74 : qa_M =>
  qbd (((1 : Int32) <<< ((h74.1 4 4) &&& 31)) - (1 : Int32)) (fun v85 : Int32 =>
  qbd (0 : Int32) (fun v88 : Int32 =>
  f_X0_look_b90_loop v85 v88 h74))))
set_option maxRecDepth 20000 in
theorem s_X0_look_b64 {l : Launch} {g : qa_G} {d : Nat} {rz : Option Value} {hz : qa_M} (x3 : Int32) (h : qa_M) {z : qa_M} (E : f_X0_look_b64 x3 h = some z) (G : (qg_v rz hz) z) : qt_At l g (yX0_look, cX0_look, 8, none) (d + 4) 0 0 64 [(0, .ref (g.1 + 40)), (1, .ref (g.1 + 22)), (2, .ref (g.1 + 4)), (3, .int x3)] [] h rz hz := by
  unfold f_X0_look_b64 at E
  refine qt_aload_n 0 dX0_look_64 rfl rfl ?_
  refine qt_getS 43 (wl_40 h) fe_RX0_19 rfl dX0_look_65 ?_
  refine qt_iconst dX0_look_68 ci_0 ?_
  obtain ⟨h69, e69, E⟩ := qbv_el E
  refine qt_callSv (b2 := 0) [.ref (g.1 + 43), .int (0 : Int32)] (c_J7_fill_53178 43 (0 : Int32) h e69) cv_RX0_58 rfl (Nat.le_of_ble_eq_true rfl) (Nat.le_of_ble_eq_true rfl) dX0_look_69 ?_
  refine qt_aload_n 1 dX0_look_72 rfl rfl ?_
  refine qt_iload_n 3 dX0_look_73 rfl rfl ?_
  obtain ⟨h74, e74, E⟩ := qbv_el E
  refine qt_callVv (b2 := 0) [.int x3] (c_X7_start x3 h69 e74) cv_RX0_64 (wl_22 h69) rfl rfl rfl (Nat.le_of_ble_eq_true rfl) (Nat.le_of_ble_eq_true rfl) dX0_look_74 ?_
  refine qt_iconst dX0_look_77 ci_1 ?_
  refine qt_aload_n 2 dX0_look_78 rfl rfl ?_
  refine qt_getI (wl_4 h74) fe_RX0_70 rfl dX0_look_79 ?_
  refine qt_ishl dX0_look_82 ?_
  refine qt_iconst dX0_look_83 ci_1 ?_
  refine qt_isub dX0_look_84 ?_
  refine qt_istore (fun v85 => [(6, .int v85), (0, .ref (g.1 + 40)), (1, .ref (g.1 + 22)), (2, .ref (g.1 + 4)), (3, .int x3)]) dX0_look_85 (Nat.le_of_ble_eq_true rfl) (fun _ => rfl) E (fun v85 E => ?_)
  refine qt_iconst dX0_look_87 ci_0 ?_
  refine qt_istore (fun v88 => [(7, .int v88), (6, .int v85), (0, .ref (g.1 + 40)), (1, .ref (g.1 + 22)), (2, .ref (g.1 + 4)), (3, .int x3)]) dX0_look_88 (Nat.le_of_ble_eq_true rfl) (fun _ => rfl) E (fun v88 E => ?_)
  exact qt_sub _ [2, 3, 1, 0] rfl ((s_X0_look_b90_loop v85 v88 h74 E G))
noncomputable def f_X0_look_b27 (x3 : Int32) (x4 : Int32) (x5 : Int32) (h : qa_M) : Option qa_M :=
  qbd (qw_I h 40 4 x5) (fun h30 : qa_M =>
  qbd (qw_I h30 40 5 x3) (fun h35 : qa_M =>
  qbd (qw_I h35 40 6 x4) (fun h41 : qa_M =>
  if x4 = 0 then (
   qbv (m_X0_viewFromHills h41) (fun h51 : qa_M =>
   f_X0_look_b64 x3 h51))
  else (
   qbv (m_X0_viewFromSquares x4 h41) (fun h61 : qa_M =>
   f_X0_look_b64 x3 h61)))))
set_option maxRecDepth 20000 in
theorem s_X0_look_b27 {l : Launch} {g : qa_G} {d : Nat} {rz : Option Value} {hz : qa_M} (x3 : Int32) (x4 : Int32) (x5 : Int32) (h : qa_M) {z : qa_M} (E : f_X0_look_b27 x3 x4 x5 h = some z) (G : (qg_v rz hz) z) : qt_At l g (yX0_look, cX0_look, 8, none) (d + 4) 0 0 27 [(0, .ref (g.1 + 40)), (1, .ref (g.1 + 22)), (2, .ref (g.1 + 4)), (3, .int x3), (4, .int x4), (5, .int x5)] [] h rz hz := by
  unfold f_X0_look_b27 at E
  refine qt_aload_n 0 dX0_look_27 rfl rfl ?_
  refine qt_iload 5 dX0_look_28 rfl ?_
  refine qt_putI (wl_40 h) fd_RX0_41 rfl rfl rfl dX0_look_30 E (fun h30 E => ?_)
  refine qt_aload_n 0 dX0_look_33 rfl rfl ?_
  refine qt_iload_n 3 dX0_look_34 rfl rfl ?_
  refine qt_putI (wl_40 h30) fd_RX0_44 rfl rfl rfl dX0_look_35 E (fun h35 E => ?_)
  refine qt_aload_n 0 dX0_look_38 rfl rfl ?_
  refine qt_iload 4 dX0_look_39 rfl ?_
  refine qt_putI (wl_40 h35) fd_RX0_47 rfl rfl rfl dX0_look_41 E (fun h41 E => ?_)
  refine qt_iload 4 dX0_look_44 rfl ?_
  refine qt_if_ne 57 dX0_look_46 (by decide) E (fun E => ?_) (fun E => ?_)
  · refine qt_aload_n 0 dX0_look_57 rfl rfl ?_
    refine qt_aload_n 2 dX0_look_58 rfl rfl ?_
    refine qt_iload 4 dX0_look_59 rfl ?_
    obtain ⟨h61, e61, E⟩ := qbv_el E
    refine qt_callVv (b2 := 0) [.ref (g.1 + 4), .int x4] (c_X0_viewFromSquares x4 h41 e61) cv_RX0_54 (wl_40 h41) rfl rfl rfl (Nat.le_of_ble_eq_true rfl) (Nat.le_of_ble_eq_true rfl) dX0_look_61 ?_
    exact qt_sub _ [0, 1, 2, 3] rfl ((s_X0_look_b64 x3 h61 E G))
  · refine qt_aload_n 0 dX0_look_49 rfl rfl ?_
    refine qt_aload_n 2 dX0_look_50 rfl rfl ?_
    obtain ⟨h51, e51, E⟩ := qbv_el E
    refine qt_callVv (b2 := 0) [.ref (g.1 + 4)] (c_X0_viewFromHills h41 e51) cv_RX0_50 (wl_40 h41) rfl rfl rfl (Nat.le_of_ble_eq_true rfl) (Nat.le_of_ble_eq_true rfl) dX0_look_51 ?_
    refine qt_goto 64 dX0_look_54 (by decide) ?_
    exact qt_sub _ [0, 1, 2, 3] rfl ((s_X0_look_b64 x3 h51 E G))
noncomputable def m_X0_look (x3 : Int32) (x4 : Int32) (x5 : Int32) (h : qa_M) : Option qa_M :=
  if (h.1 40 4) = x5 then (
   if (h.1 40 5) = x3 then (
    if (h.1 40 6) = x4 then (
     some h)
    else (
     f_X0_look_b27 x3 x4 x5 h))
   else (
    f_X0_look_b27 x3 x4 x5 h))
  else (
   f_X0_look_b27 x3 x4 x5 h)
set_option maxRecDepth 20000 in
theorem c_X0_look {l : Launch} {g : qa_G} {d : Nat} (x3 : Int32) (x4 : Int32) (x5 : Int32) (h : qa_M) {h1 : qa_M} (E : m_X0_look x3 x4 x5 h = some h1) : qt_Met l g (yX0_look, cX0_look, 8, none) (d + 4) 0 [.ref (g.1 + 40), .ref (g.1 + 22), .ref (g.1 + 4), .int x3, .int x4, .int x5] h none h1 := by
  refine qt_Met.of (plainFor_of_name (by decide)) (Nat.le_of_ble_eq_true rfl) ?_
  have G : qg_v none h1 (h1) := ⟨rfl, rfl⟩
  unfold m_X0_look at E
  refine qt_aload_n 0 dX0_look_0 rfl rfl ?_
  refine qt_getI (wl_40 h) fe_RX0_41 rfl dX0_look_1 ?_
  refine qt_iload 5 dX0_look_4 rfl ?_
  refine qt_icmp_ne 27 dX0_look_6 (by decide) E (fun E => ?_) (fun E => ?_)
  · exact qt_sub _ [0, 1, 2, 3, 4, 5] rfl ((s_X0_look_b27 x3 x4 x5 h E G))
  · refine qt_aload_n 0 dX0_look_9 rfl rfl ?_
    refine qt_getI (wl_40 h) fe_RX0_44 rfl dX0_look_10 ?_
    refine qt_iload_n 3 dX0_look_13 rfl rfl ?_
    refine qt_icmp_ne 27 dX0_look_14 (by decide) E (fun E => ?_) (fun E => ?_)
    · exact qt_sub _ [0, 1, 2, 3, 4, 5] rfl ((s_X0_look_b27 x3 x4 x5 h E G))
    · refine qt_aload_n 0 dX0_look_17 rfl rfl ?_
      refine qt_getI (wl_40 h) fe_RX0_47 rfl dX0_look_18 ?_
      refine qt_iload 4 dX0_look_21 rfl ?_
      refine qt_icmp_ne 27 dX0_look_23 (by decide) E (fun E => ?_) (fun E => ?_)
      · exact qt_sub _ [0, 1, 2, 3, 4, 5] rfl ((s_X0_look_b27 x3 x4 x5 h E G))
      · exact qt_vreturn rfl (Nat.le_of_ble_eq_true rfl) dX0_look_26 E G
noncomputable def m_X11_lookFrom (x1 : Int32) (x2 : Int32) (h : qa_M) : Option qa_M :=
  qbv (m_X11_prepare h) (fun h1 : qa_M =>
  qbv (m_X0_look x1 x2 (h1.1 0 13) h1) (fun h25 : qa_M =>
  some h25))
set_option maxRecDepth 20000 in
theorem c_X11_lookFrom {l : Launch} {g : qa_G} {d : Nat} (x1 : Int32) (x2 : Int32) (h : qa_M) {h1 : qa_M} (E : m_X11_lookFrom x1 x2 h = some h1) : qt_Met l g (yX11_lookFrom, cX11_lookFrom, 3, none) (d + 6) 0 [.ref (g.1 + 0), .int x1, .int x2] h none h1 := by
  refine qt_Met.of (plainFor_of_name (by decide)) (Nat.le_of_ble_eq_true rfl) ?_
  have G : qg_v none h1 (h1) := ⟨rfl, rfl⟩
  unfold m_X11_lookFrom at E
  refine qt_aload_n 0 dX11_lookFrom_0 rfl rfl ?_
  obtain ⟨h1, e1, E⟩ := qbv_el E
  refine qt_callVv (b2 := 0) [] (c_X11_prepare h e1) cv_RX11_164 (wl_0 h) rfl rfl rfl (Nat.le_of_ble_eq_true rfl) (Nat.le_of_ble_eq_true rfl) dX11_lookFrom_1 ?_
  refine qt_aload_n 0 dX11_lookFrom_4 rfl rfl ?_
  refine qt_getS 40 (wl_0 h1) fe_RX11_81 rfl dX11_lookFrom_5 ?_
  refine qt_aload_n 0 dX11_lookFrom_8 rfl rfl ?_
  refine qt_getS 22 (wl_0 h1) fe_RX11_67 rfl dX11_lookFrom_9 ?_
  refine qt_aload_n 0 dX11_lookFrom_12 rfl rfl ?_
  refine qt_getS 3 (wl_0 h1) fe_RX11_19 rfl dX11_lookFrom_13 ?_
  refine qt_getS 4 (wl_3 h1) fe_RX11_108 rfl dX11_lookFrom_16 ?_
  refine qt_iload_n 1 dX11_lookFrom_19 rfl rfl ?_
  refine qt_iload_n 2 dX11_lookFrom_20 rfl rfl ?_
  refine qt_aload_n 0 dX11_lookFrom_21 rfl rfl ?_
  refine qt_getI (wl_0 h1) fe_RX11_92 rfl dX11_lookFrom_22 ?_
  obtain ⟨h25, e25, E⟩ := qbv_el E
  refine qt_callVv (b2 := 0) [.ref (g.1 + 22), .ref (g.1 + 4), .int x1, .int x2, .int (h1.1 0 13)] (c_X0_look x1 x2 (h1.1 0 13) h1 e25) cv_RX11_295 (wl_40 h1) rfl rfl rfl (Nat.le_of_ble_eq_true rfl) (Nat.le_of_ble_eq_true rfl) dX11_lookFrom_25 ?_
  exact qt_vreturn rfl (Nat.le_of_ble_eq_true rfl) dX11_lookFrom_28 E G
noncomputable def f_X0_greatest_b4 (x1 : Int32) (x2 : Int32) (x3 : Int32) (h : qa_M) : Option ((Int32 × Int32 × Int32 × qa_M) ⊕ (Int32 × qa_M)) :=
  if (16 : Int32) ≤ x3 then (
   qup (some (x2, h)))
  else (
   qck ((x1 * (16 : Int32)) + x3) 576 (
   qbd (q_max x2 (h.1 43 ((x1 * (16 : Int32)) + x3).toNatClampNeg)) (fun v25 : Int32 =>
   qbd (x3 + (1 : Int32)) (fun v26 : Int32 =>
   some (.inl (x1, v25, v26, h))))))
set_option maxRecDepth 20000 in
theorem s_X0_greatest_b4 {l : Launch} {g : qa_G} {d : Nat} {rz : Option Value} {hz : qa_M} (x1 : Int32) (x2 : Int32) (x3 : Int32) (h : qa_M) {z : ((Int32 × Int32 × Int32 × qa_M) ⊕ (Int32 × qa_M))} (E : f_X0_greatest_b4 x1 x2 x3 h = some z) (G : (Sum.elim (fun (sz : Int32 × Int32 × Int32 × qa_M) => qt_At l g (yX0_greatest, cX0_greatest, 4, (some .int)) (d + 1) 0 0 4 [(0, .ref (g.1 + 40)), (1, .int sz.1), (2, .int sz.2.1), (3, .int sz.2.2.1)] [] sz.2.2.2 rz hz) (qg_i rz hz)) z) : qt_At l g (yX0_greatest, cX0_greatest, 4, (some .int)) (d + 1) 0 0 4 [(0, .ref (g.1 + 40)), (1, .int x1), (2, .int x2), (3, .int x3)] [] h rz hz := by
  unfold f_X0_greatest_b4 at E
  refine qt_iload_n 3 dX0_greatest_4 rfl rfl ?_
  refine qt_bipush dX0_greatest_5 cb_16 ?_
  refine qt_icmp_ge 32 dX0_greatest_7 (by decide) E (fun E => ?_) (fun E => ?_)
  · refine qt_iload_n 2 dX0_greatest_32 rfl rfl ?_
    obtain ⟨z0_, E, G⟩ := qup_g E G
    exact qt_ireturn rfl (Nat.le_of_ble_eq_true rfl) dX0_greatest_33 E G
  · refine qt_iload_n 2 dX0_greatest_10 rfl rfl ?_
    refine qt_aload_n 0 dX0_greatest_11 rfl rfl ?_
    refine qt_getS 43 (wl_40 h) fe_RX0_19 rfl dX0_greatest_12 ?_
    refine qt_iload_n 1 dX0_greatest_15 rfl rfl ?_
    refine qt_bipush dX0_greatest_16 cb_16 ?_
    refine qt_imul dX0_greatest_18 ?_
    refine qt_iload_n 3 dX0_greatest_19 rfl rfl ?_
    refine qt_iadd dX0_greatest_20 ?_
    refine qt_iald (wl_43 h) dX0_greatest_21 E (fun E => ?_)
    refine qt_mmax tb_1212 dX0_greatest_22 (Nat.le_of_ble_eq_true rfl) ?_
    refine qt_istore_n (fun v25 => [(2, .int v25), (0, .ref (g.1 + 40)), (1, .int x1), (3, .int x3)]) dX0_greatest_25 rfl (Nat.le_of_ble_eq_true rfl) (fun _ => rfl) E (fun v25 E => ?_)
    refine qt_iinc 3 (fun v26 => [(3, .int v26), (2, .int v25), (0, .ref (g.1 + 40)), (1, .int x1)]) dX0_greatest_26 rfl ci_1 (Nat.le_of_ble_eq_true rfl) (fun _ => rfl) E (fun v26 E => ?_)
    refine qt_goto 4 dX0_greatest_29 (by decide) ?_
    cases E
    exact qt_sub _ [2, 3, 1, 0] rfl (G)
noncomputable def f_X0_greatest_b4_loop (x1 : Int32) (x2 : Int32) (x3 : Int32) (h : qa_M) : Option (Int32 × qa_M) := qlp (fun sz : Int32 × Int32 × Int32 × qa_M => f_X0_greatest_b4 sz.1 sz.2.1 sz.2.2.1 sz.2.2.2) (x1, x2, x3, h)
theorem s_X0_greatest_b4_loop {l : Launch} {g : qa_G} {d : Nat} {rz : Option Value} {hz : qa_M} (x1 : Int32) (x2 : Int32) (x3 : Int32) (h : qa_M) {z : (Int32 × qa_M)} (E : f_X0_greatest_b4_loop x1 x2 x3 h = some z) (G : (qg_i rz hz) z) : qt_At l g (yX0_greatest, cX0_greatest, 4, (some .int)) (d + 1) 0 0 4 [(0, .ref (g.1 + 40)), (1, .int x1), (2, .int x2), (3, .int x3)] [] h rz hz :=
  qlp_ind (fun sz : Int32 × Int32 × Int32 × qa_M => qt_At l g (yX0_greatest, cX0_greatest, 4, (some .int)) (d + 1) 0 0 4 [(0, .ref (g.1 + 40)), (1, .int sz.1), (2, .int sz.2.1), (3, .int sz.2.2.1)] [] sz.2.2.2 rz hz) (fun sz E => s_X0_greatest_b4 sz.1 sz.2.1 sz.2.2.1 sz.2.2.2 E G) (fun sz sz2 E ih => s_X0_greatest_b4 sz.1 sz.2.1 sz.2.2.1 sz.2.2.2 E ih) (x1, x2, x3, h) E
noncomputable def m_X0_greatest (x1 : Int32) (h : qa_M) : Option (Int32 × qa_M) :=
  qbd (0 : Int32) (fun v1 : Int32 =>
  qbd (0 : Int32) (fun v3 : Int32 =>
  f_X0_greatest_b4_loop x1 v1 v3 h))
set_option maxRecDepth 20000 in
theorem c_X0_greatest {l : Launch} {g : qa_G} {d : Nat} (x1 : Int32) (h : qa_M) {c : Int32} {h1 : qa_M} (E : m_X0_greatest x1 h = some (c, h1)) : qt_Met l g (yX0_greatest, cX0_greatest, 4, (some .int)) (d + 1) 0 [.ref (g.1 + 40), .int x1] h (some (.int c)) h1 := by
  refine qt_Met.of (plainFor_of_name (by decide)) (Nat.le_of_ble_eq_true rfl) ?_
  have G : qg_i (some (.int c)) h1 ((c, h1)) := ⟨rfl, rfl⟩
  unfold m_X0_greatest at E
  refine qt_iconst dX0_greatest_0 ci_0 ?_
  refine qt_istore_n (fun v1 => [(2, .int v1), (0, .ref (g.1 + 40)), (1, .int x1)]) dX0_greatest_1 rfl (Nat.le_of_ble_eq_true rfl) (fun _ => rfl) E (fun v1 E => ?_)
  refine qt_iconst dX0_greatest_2 ci_0 ?_
  refine qt_istore_n (fun v3 => [(3, .int v3), (2, .int v1), (0, .ref (g.1 + 40)), (1, .int x1)]) dX0_greatest_3 rfl (Nat.le_of_ble_eq_true rfl) (fun _ => rfl) E (fun v3 E => ?_)
  exact qt_sub _ [2, 3, 1, 0] rfl ((s_X0_greatest_b4_loop x1 v1 v3 h E G))
noncomputable def m_X11_worst (x1 : Int32) (x2 : Int32) (h : qa_M) : Option (Int32 × qa_M) :=
  qbn (m_X11_known x1 h) (fun (c2 : Int32) (h2 : qa_M) =>
  if c2 = 0 then (
   some ((-1 : Int32), h2))
  else (
   qbn (m_X11_within x2 (h2.1 4 2) h2) (fun (c19 : Int32) (h19 : qa_M) =>
   if c19 = 0 then (
    some ((-1 : Int32), h19))
   else (
    qbv (m_X11_lookFrom x1 (0 : Int32) h19) (fun h30 : qa_M =>
    qbn (m_X0_greatest x2 h30) (fun (c38 : Int32) (h38 : qa_M) =>
    some (c38, h38)))))))
set_option maxRecDepth 20000 in
theorem c_X11_worst {l : Launch} {g : qa_G} {d : Nat} (x1 : Int32) (x2 : Int32) (h : qa_M) {c : Int32} {h1 : qa_M} (E : m_X11_worst x1 x2 h = some (c, h1)) : qt_Met l g (yX11_worst, cX11_worst, 3, (some .int)) (d + 7) 0 [.ref (g.1 + 0), .int x1, .int x2] h (some (.int c)) h1 := by
  refine qt_Met.of (plainFor_of_name (by decide)) (Nat.le_of_ble_eq_true rfl) ?_
  have G : qg_i (some (.int c)) h1 ((c, h1)) := ⟨rfl, rfl⟩
  unfold m_X11_worst at E
  refine qt_aload_n 0 dX11_worst_0 rfl rfl ?_
  refine qt_iload_n 1 dX11_worst_1 rfl rfl ?_
  obtain ⟨c2, h2, e2, E⟩ := qbn_el E
  refine qt_callVi (b2 := 0) [.int x1] (c_X11_known x1 h e2) cv_RX11_187 (wl_0 h) rfl rfl rfl (Nat.le_of_ble_eq_true rfl) (Nat.le_of_ble_eq_true rfl) dX11_worst_2 ?_
  refine qt_if_eq 25 dX11_worst_5 (by decide) E (fun E => ?_) (fun E => ?_)
  · refine qt_iconst dX11_worst_25 ci_m1 ?_
    exact qt_ireturn rfl (Nat.le_of_ble_eq_true rfl) dX11_worst_26 E G
  · refine qt_iload_n 2 dX11_worst_8 rfl rfl ?_
    refine qt_aload_n 0 dX11_worst_9 rfl rfl ?_
    refine qt_getS 3 (wl_0 h2) fe_RX11_19 rfl dX11_worst_10 ?_
    refine qt_getS 4 (wl_3 h2) fe_RX11_108 rfl dX11_worst_13 ?_
    refine qt_getI (wl_4 h2) fe_RX11_118 rfl dX11_worst_16 ?_
    obtain ⟨c19, h19, e19, E⟩ := qbn_el E
    refine qt_callSi (b2 := 0) [.int x2, .int (h2.1 4 2)] (c_X11_within x2 (h2.1 4 2) h2 e19) cv_RX11_130 rfl (Nat.le_of_ble_eq_true rfl) (Nat.le_of_ble_eq_true rfl) dX11_worst_19 ?_
    refine qt_if_ne 27 dX11_worst_22 (by decide) E (fun E => ?_) (fun E => ?_)
    · refine qt_aload_n 0 dX11_worst_27 rfl rfl ?_
      refine qt_iload_n 1 dX11_worst_28 rfl rfl ?_
      refine qt_iconst dX11_worst_29 ci_0 ?_
      obtain ⟨h30, e30, E⟩ := qbv_el E
      refine qt_callVv (b2 := 0) [.int x1, .int (0 : Int32)] (c_X11_lookFrom x1 (0 : Int32) h19 e30) cv_RX11_241 (wl_0 h19) rfl rfl rfl (Nat.le_of_ble_eq_true rfl) (Nat.le_of_ble_eq_true rfl) dX11_worst_30 ?_
      refine qt_aload_n 0 dX11_worst_33 rfl rfl ?_
      refine qt_getS 40 (wl_0 h30) fe_RX11_81 rfl dX11_worst_34 ?_
      refine qt_iload_n 2 dX11_worst_37 rfl rfl ?_
      obtain ⟨c38, h38, e38, E⟩ := qbn_el E
      refine qt_callVi (b2 := 0) [.int x2] (c_X0_greatest x2 h30 e38) cv_RX11_245 (wl_40 h30) rfl rfl rfl (Nat.le_of_ble_eq_true rfl) (Nat.le_of_ble_eq_true rfl) dX11_worst_38 ?_
      exact qt_ireturn rfl (Nat.le_of_ble_eq_true rfl) dX11_worst_41 E G
    · refine qt_iconst dX11_worst_25 ci_m1 ?_
      exact qt_ireturn rfl (Nat.le_of_ble_eq_true rfl) dX11_worst_26 E G
noncomputable def m_X0_forget (h : qa_M) : Option qa_M :=
  qbd (qw_I h 40 14 (-1 : Int32)) (fun h2 : qa_M =>
  qbd (qw_I h2 40 15 (0 : Int32)) (fun h7 : qa_M =>
  some h7))
set_option maxRecDepth 20000 in
theorem c_X0_forget {l : Launch} {g : qa_G} {d : Nat} (h : qa_M) {h1 : qa_M} (E : m_X0_forget h = some h1) : qt_Met l g (yX0_forget, cX0_forget, 1, none) d 0 [.ref (g.1 + 40)] h none h1 := by
  refine qt_Met.of (plainFor_of_name (by decide)) (Nat.le_of_ble_eq_true rfl) ?_
  have G : qg_v none h1 (h1) := ⟨rfl, rfl⟩
  unfold m_X0_forget at E
  refine qt_aload_n 0 dX0_forget_0 rfl rfl ?_
  refine qt_iconst dX0_forget_1 ci_m1 ?_
  refine qt_putI (wl_40 h) fd_RX0_34 rfl rfl rfl dX0_forget_2 E (fun h2 E => ?_)
  refine qt_aload_n 0 dX0_forget_5 rfl rfl ?_
  refine qt_iconst dX0_forget_6 ci_0 ?_
  refine qt_putI (wl_40 h2) fd_RX0_38 rfl rfl rfl dX0_forget_7 E (fun h7 E => ?_)
  exact qt_vreturn rfl (Nat.le_of_ble_eq_true rfl) dX0_forget_10 E G
noncomputable def f_X0_choose_b16 (x1 : Int32) (x2 : Int32) (h : qa_M) : Option qa_M :=
  qbd (qw_I h 40 14 x1) (fun h18 : qa_M =>
  qbd (qw_I h18 40 15 x2) (fun h23 : qa_M =>
  some h23))
set_option maxRecDepth 20000 in
theorem s_X0_choose_b16 {l : Launch} {g : qa_G} {d : Nat} {rz : Option Value} {hz : qa_M} (x1 : Int32) (x2 : Int32) (h : qa_M) {z : qa_M} (E : f_X0_choose_b16 x1 x2 h = some z) (G : (qg_v rz hz) z) : qt_At l g (yX0_choose, cX0_choose, 3, none) d 0 0 16 [(0, .ref (g.1 + 40)), (1, .int x1), (2, .int x2)] [] h rz hz := by
  unfold f_X0_choose_b16 at E
  refine qt_aload_n 0 dX0_choose_16 rfl rfl ?_
  refine qt_iload_n 1 dX0_choose_17 rfl rfl ?_
  refine qt_putI (wl_40 h) fd_RX0_34 rfl rfl rfl dX0_choose_18 E (fun h18 E => ?_)
  refine qt_aload_n 0 dX0_choose_21 rfl rfl ?_
  refine qt_iload_n 2 dX0_choose_22 rfl rfl ?_
  refine qt_putI (wl_40 h18) fd_RX0_38 rfl rfl rfl dX0_choose_23 E (fun h23 E => ?_)
  exact qt_vreturn rfl (Nat.le_of_ble_eq_true rfl) dX0_choose_26 E G
noncomputable def m_X0_choose (x1 : Int32) (x2 : Int32) (h : qa_M) : Option qa_M :=
  if (h.1 40 14) = (-1 : Int32) then (
   f_X0_choose_b16 x1 x2 h)
  else (
   if (h.1 40 15) ≤ x2 then (
    some h)
   else (
    f_X0_choose_b16 x1 x2 h))
set_option maxRecDepth 20000 in
theorem c_X0_choose {l : Launch} {g : qa_G} {d : Nat} (x1 : Int32) (x2 : Int32) (h : qa_M) {h1 : qa_M} (E : m_X0_choose x1 x2 h = some h1) : qt_Met l g (yX0_choose, cX0_choose, 3, none) d 0 [.ref (g.1 + 40), .int x1, .int x2] h none h1 := by
  refine qt_Met.of (plainFor_of_name (by decide)) (Nat.le_of_ble_eq_true rfl) ?_
  have G : qg_v none h1 (h1) := ⟨rfl, rfl⟩
  unfold m_X0_choose at E
  refine qt_aload_n 0 dX0_choose_0 rfl rfl ?_
  refine qt_getI (wl_40 h) fe_RX0_34 rfl dX0_choose_1 ?_
  refine qt_iconst dX0_choose_4 ci_m1 ?_
  refine qt_icmp_eq 16 dX0_choose_5 (by decide) E (fun E => ?_) (fun E => ?_)
  · exact qt_sub _ [0, 1, 2] rfl ((s_X0_choose_b16 x1 x2 h E G))
  · refine qt_iload_n 2 dX0_choose_8 rfl rfl ?_
    refine qt_aload_n 0 dX0_choose_9 rfl rfl ?_
    refine qt_getI (wl_40 h) fe_RX0_38 rfl dX0_choose_10 ?_
    refine qt_icmp_ge 26 dX0_choose_13 (by decide) E (fun E => ?_) (fun E => ?_)
    · exact qt_vreturn rfl (Nat.le_of_ble_eq_true rfl) dX0_choose_26 E G
    · exact qt_sub _ [0, 1, 2] rfl ((s_X0_choose_b16 x1 x2 h E G))
noncomputable def f_X0_chooseView_b6 (x1 : Int32) (h : qa_M) : Option ((Int32 × qa_M) ⊕ qa_M) :=
  if (h.1 40 0) ≤ x1 then (
   qup (some h))
  else (
   qck x1 36 (
   qbn (m_X0_greatest x1 h) (fun (c23 : Int32) (h23 : qa_M) =>
   qbv (m_X0_choose (h.1 42 x1.toNatClampNeg) c23 h23) (fun h26 : qa_M =>
   qbd (x1 + (1 : Int32)) (fun v29 : Int32 =>
   some (.inl (v29, h26)))))))
set_option maxRecDepth 20000 in
theorem s_X0_chooseView_b6 {l : Launch} {g : qa_G} {d : Nat} {rz : Option Value} {hz : qa_M} (x1 : Int32) (h : qa_M) {z : ((Int32 × qa_M) ⊕ qa_M)} (E : f_X0_chooseView_b6 x1 h = some z) (G : (Sum.elim (fun (sz : Int32 × qa_M) => qt_At l g (yX0_chooseView, cX0_chooseView, 2, none) (d + 2) 0 0 6 [(0, .ref (g.1 + 40)), (1, .int sz.1)] [] sz.2 rz hz) (qg_v rz hz)) z) : qt_At l g (yX0_chooseView, cX0_chooseView, 2, none) (d + 2) 0 0 6 [(0, .ref (g.1 + 40)), (1, .int x1)] [] h rz hz := by
  unfold f_X0_chooseView_b6 at E
  refine qt_iload_n 1 dX0_chooseView_6 rfl rfl ?_
  refine qt_aload_n 0 dX0_chooseView_7 rfl rfl ?_
  refine qt_getI (wl_40 h) fe_RX0_87 rfl dX0_chooseView_8 ?_
  refine qt_icmp_ge 35 dX0_chooseView_11 (by decide) E (fun E => ?_) (fun E => ?_)
  · obtain ⟨z0_, E, G⟩ := qup_g E G
    exact qt_vreturn rfl (Nat.le_of_ble_eq_true rfl) dX0_chooseView_35 E G
  · refine qt_aload_n 0 dX0_chooseView_14 rfl rfl ?_
    refine qt_aload_n 0 dX0_chooseView_15 rfl rfl ?_
    refine qt_getS 42 (wl_40 h) fe_RX0_15 rfl dX0_chooseView_16 ?_
    refine qt_iload_n 1 dX0_chooseView_19 rfl rfl ?_
    refine qt_iald (wl_42 h) dX0_chooseView_20 E (fun E => ?_)
    refine qt_aload_n 0 dX0_chooseView_21 rfl rfl ?_
    refine qt_iload_n 1 dX0_chooseView_22 rfl rfl ?_
    obtain ⟨c23, h23, e23, E⟩ := qbn_el E
    refine qt_callVi (b2 := 0) [.int x1] (c_X0_greatest x1 h e23) cv_RX0_126 (wl_40 h) rfl rfl rfl (Nat.le_of_ble_eq_true rfl) (Nat.le_of_ble_eq_true rfl) dX0_chooseView_23 ?_
    obtain ⟨h26, e26, E⟩ := qbv_el E
    refine qt_callVv (b2 := 0) [.int (h.1 42 x1.toNatClampNeg), .int c23] (c_X0_choose (h.1 42 x1.toNatClampNeg) c23 h23 e26) cv_RX0_130 (wl_40 h23) rfl rfl rfl (Nat.le_of_ble_eq_true rfl) (Nat.le_of_ble_eq_true rfl) dX0_chooseView_26 ?_
    refine qt_iinc 1 (fun v29 => [(1, .int v29), (0, .ref (g.1 + 40))]) dX0_chooseView_29 rfl ci_1 (Nat.le_of_ble_eq_true rfl) (fun _ => rfl) E (fun v29 E => ?_)
    refine qt_goto 6 dX0_chooseView_32 (by decide) ?_
    cases E
    exact qt_sub _ [1, 0] rfl (G)
noncomputable def f_X0_chooseView_b6_loop (x1 : Int32) (h : qa_M) : Option qa_M := qlp (fun sz : Int32 × qa_M => f_X0_chooseView_b6 sz.1 sz.2) (x1, h)
theorem s_X0_chooseView_b6_loop {l : Launch} {g : qa_G} {d : Nat} {rz : Option Value} {hz : qa_M} (x1 : Int32) (h : qa_M) {z : qa_M} (E : f_X0_chooseView_b6_loop x1 h = some z) (G : (qg_v rz hz) z) : qt_At l g (yX0_chooseView, cX0_chooseView, 2, none) (d + 2) 0 0 6 [(0, .ref (g.1 + 40)), (1, .int x1)] [] h rz hz :=
  qlp_ind (fun sz : Int32 × qa_M => qt_At l g (yX0_chooseView, cX0_chooseView, 2, none) (d + 2) 0 0 6 [(0, .ref (g.1 + 40)), (1, .int sz.1)] [] sz.2 rz hz) (fun sz E => s_X0_chooseView_b6 sz.1 sz.2 E G) (fun sz sz2 E ih => s_X0_chooseView_b6 sz.1 sz.2 E ih) (x1, h) E
noncomputable def m_X0_chooseView (h : qa_M) : Option qa_M :=
  qbv (m_X0_forget h) (fun h1 : qa_M =>
  qbd (0 : Int32) (fun v5 : Int32 =>
  f_X0_chooseView_b6_loop v5 h1))
set_option maxRecDepth 20000 in
theorem c_X0_chooseView {l : Launch} {g : qa_G} {d : Nat} (h : qa_M) {h1 : qa_M} (E : m_X0_chooseView h = some h1) : qt_Met l g (yX0_chooseView, cX0_chooseView, 2, none) (d + 2) 0 [.ref (g.1 + 40)] h none h1 := by
  refine qt_Met.of (plainFor_of_name (by decide)) (Nat.le_of_ble_eq_true rfl) ?_
  have G : qg_v none h1 (h1) := ⟨rfl, rfl⟩
  unfold m_X0_chooseView at E
  refine qt_aload_n 0 dX0_chooseView_0 rfl rfl ?_
  obtain ⟨h1, e1, E⟩ := qbv_el E
  refine qt_callVv (b2 := 0) [] (c_X0_forget h e1) cv_RX0_123 (wl_40 h) rfl rfl rfl (Nat.le_of_ble_eq_true rfl) (Nat.le_of_ble_eq_true rfl) dX0_chooseView_1 ?_
  refine qt_iconst dX0_chooseView_4 ci_0 ?_
  refine qt_istore_n (fun v5 => [(1, .int v5), (0, .ref (g.1 + 40))]) dX0_chooseView_5 rfl (Nat.le_of_ble_eq_true rfl) (fun _ => rfl) E (fun v5 E => ?_)
  exact qt_sub _ [1, 0] rfl ((s_X0_chooseView_b6_loop v5 h1 E G))
noncomputable def m_X0_chosen (x1 : Int32) (h : qa_M) : Option (Int32 × qa_M) :=
  if x1 = 0 then (
   some (h.1 40 14, h))
  else (
   some (h.1 40 15, h))
set_option maxRecDepth 20000 in
theorem c_X0_chosen {l : Launch} {g : qa_G} {d : Nat} (x1 : Int32) (h : qa_M) {c : Int32} {h1 : qa_M} (E : m_X0_chosen x1 h = some (c, h1)) : qt_Met l g (yX0_chosen, cX0_chosen, 2, (some .int)) d 0 [.ref (g.1 + 40), .int x1] h (some (.int c)) h1 := by
  refine qt_Met.of (plainFor_of_name (by decide)) (Nat.le_of_ble_eq_true rfl) ?_
  have G : qg_i (some (.int c)) h1 ((c, h1)) := ⟨rfl, rfl⟩
  unfold m_X0_chosen at E
  refine qt_iload_n 1 dX0_chosen_0 rfl rfl ?_
  refine qt_if_ne 11 dX0_chosen_1 (by decide) E (fun E => ?_) (fun E => ?_)
  · refine qt_aload_n 0 dX0_chosen_11 rfl rfl ?_
    refine qt_getI (wl_40 h) fe_RX0_38 rfl dX0_chosen_12 ?_
    exact qt_ireturn rfl (Nat.le_of_ble_eq_true rfl) dX0_chosen_15 E G
  · refine qt_aload_n 0 dX0_chosen_4 rfl rfl ?_
    refine qt_getI (wl_40 h) fe_RX0_34 rfl dX0_chosen_5 ?_
    refine qt_goto 15 dX0_chosen_8 (by decide) ?_
    exact qt_ireturn rfl (Nat.le_of_ble_eq_true rfl) dX0_chosen_15 E G
noncomputable def m_X11_next (x1 : Int32) (x2 : Int32) (h : qa_M) : Option (Int32 × qa_M) :=
  qbn (m_X11_known x1 h) (fun (c2 : Int32) (h2 : qa_M) =>
  if c2 = 0 then (
   some ((-1 : Int32), h2))
  else (
   qbn (m_X11_within x2 (2 : Int32) h2) (fun (c10 : Int32) (h10 : qa_M) =>
   if c10 = 0 then (
    some ((-1 : Int32), h10))
   else (
    if (h10.1 4 2) = 0 then (
     some ((-2 : Int32), h10))
    else (
     qbv (m_X11_lookFrom x1 (0 : Int32) h10) (fun h37 : qa_M =>
     qbv (m_X0_chooseView h37) (fun h44 : qa_M =>
     qbn (m_X0_chosen x2 h44) (fun (c52 : Int32) (h52 : qa_M) =>
     some (c52, h52)))))))))
set_option maxRecDepth 20000 in
theorem c_X11_next {l : Launch} {g : qa_G} {d : Nat} (x1 : Int32) (x2 : Int32) (h : qa_M) {c : Int32} {h1 : qa_M} (E : m_X11_next x1 x2 h = some (c, h1)) : qt_Met l g (yX11_next, cX11_next, 3, (some .int)) (d + 7) 0 [.ref (g.1 + 0), .int x1, .int x2] h (some (.int c)) h1 := by
  refine qt_Met.of (plainFor_of_name (by decide)) (Nat.le_of_ble_eq_true rfl) ?_
  have G : qg_i (some (.int c)) h1 ((c, h1)) := ⟨rfl, rfl⟩
  unfold m_X11_next at E
  refine qt_aload_n 0 dX11_next_0 rfl rfl ?_
  refine qt_iload_n 1 dX11_next_1 rfl rfl ?_
  obtain ⟨c2, h2, e2, E⟩ := qbn_el E
  refine qt_callVi (b2 := 0) [.int x1] (c_X11_known x1 h e2) cv_RX11_187 (wl_0 h) rfl rfl rfl (Nat.le_of_ble_eq_true rfl) (Nat.le_of_ble_eq_true rfl) dX11_next_2 ?_
  refine qt_if_eq 16 dX11_next_5 (by decide) E (fun E => ?_) (fun E => ?_)
  · refine qt_iconst dX11_next_16 ci_m1 ?_
    exact qt_ireturn rfl (Nat.le_of_ble_eq_true rfl) dX11_next_17 E G
  · refine qt_iload_n 2 dX11_next_8 rfl rfl ?_
    refine qt_iconst dX11_next_9 ci_2 ?_
    obtain ⟨c10, h10, e10, E⟩ := qbn_el E
    refine qt_callSi (b2 := 0) [.int x2, .int (2 : Int32)] (c_X11_within x2 (2 : Int32) h2 e10) cv_RX11_130 rfl (Nat.le_of_ble_eq_true rfl) (Nat.le_of_ble_eq_true rfl) dX11_next_10 ?_
    refine qt_if_ne 18 dX11_next_13 (by decide) E (fun E => ?_) (fun E => ?_)
    · refine qt_aload_n 0 dX11_next_18 rfl rfl ?_
      refine qt_getS 3 (wl_0 h10) fe_RX11_19 rfl dX11_next_19 ?_
      refine qt_getS 4 (wl_3 h10) fe_RX11_108 rfl dX11_next_22 ?_
      refine qt_getI (wl_4 h10) fe_RX11_118 rfl dX11_next_25 ?_
      refine qt_if_ne 34 dX11_next_28 (by decide) E (fun E => ?_) (fun E => ?_)
      · refine qt_aload_n 0 dX11_next_34 rfl rfl ?_
        refine qt_iload_n 1 dX11_next_35 rfl rfl ?_
        refine qt_iconst dX11_next_36 ci_0 ?_
        obtain ⟨h37, e37, E⟩ := qbv_el E
        refine qt_callVv (b2 := 0) [.int x1, .int (0 : Int32)] (c_X11_lookFrom x1 (0 : Int32) h10 e37) cv_RX11_241 (wl_0 h10) rfl rfl rfl (Nat.le_of_ble_eq_true rfl) (Nat.le_of_ble_eq_true rfl) dX11_next_37 ?_
        refine qt_aload_n 0 dX11_next_40 rfl rfl ?_
        refine qt_getS 40 (wl_0 h37) fe_RX11_81 rfl dX11_next_41 ?_
        obtain ⟨h44, e44, E⟩ := qbv_el E
        refine qt_callVv (b2 := 0) [] (c_X0_chooseView h37 e44) cv_RX11_248 (wl_40 h37) rfl rfl rfl (Nat.le_of_ble_eq_true rfl) (Nat.le_of_ble_eq_true rfl) dX11_next_44 ?_
        refine qt_aload_n 0 dX11_next_47 rfl rfl ?_
        refine qt_getS 40 (wl_0 h44) fe_RX11_81 rfl dX11_next_48 ?_
        refine qt_iload_n 2 dX11_next_51 rfl rfl ?_
        obtain ⟨c52, h52, e52, E⟩ := qbn_el E
        refine qt_callVi (b2 := 0) [.int x2] (c_X0_chosen x2 h44 e52) cv_RX11_251 (wl_40 h44) rfl rfl rfl (Nat.le_of_ble_eq_true rfl) (Nat.le_of_ble_eq_true rfl) dX11_next_52 ?_
        exact qt_ireturn rfl (Nat.le_of_ble_eq_true rfl) dX11_next_55 E G
      · refine qt_bipush dX11_next_31 cb_m2 ?_
        exact qt_ireturn rfl (Nat.le_of_ble_eq_true rfl) dX11_next_33 E G
    · refine qt_iconst dX11_next_16 ci_m1 ?_
      exact qt_ireturn rfl (Nat.le_of_ble_eq_true rfl) dX11_next_17 E G
noncomputable def m_X0_spot (x0 : Int32) (x1 : Int32) (x2 : Int32) (x3 : Int32) (h : qa_M) : Option (Int32 × qa_M) :=
  if x0 ≤ x1 then (
   some ((((((((x1 * (x1 + (1 : Int32))) / (2 : Int32)) + x0) * (16 : Int32)) + x2) * (16 : Int32)) + x3), h))
  else (
   some ((((((((x0 * (x0 + (1 : Int32))) / (2 : Int32)) + x1) * (16 : Int32)) + x3) * (16 : Int32)) + x2), h))
set_option maxRecDepth 20000 in
theorem c_X0_spot {l : Launch} {g : qa_G} {d : Nat} (x0 : Int32) (x1 : Int32) (x2 : Int32) (x3 : Int32) (h : qa_M) {c : Int32} {h1 : qa_M} (E : m_X0_spot x0 x1 x2 x3 h = some (c, h1)) : qt_Met l g (yX0_spot, cX0_spot, 4, (some .int)) d 0 [.int x0, .int x1, .int x2, .int x3] h (some (.int c)) h1 := by
  refine qt_Met.of (plainFor_of_name (by decide)) (Nat.le_of_ble_eq_true rfl) ?_
  have G : qg_i (some (.int c)) h1 ((c, h1)) := ⟨rfl, rfl⟩
  unfold m_X0_spot at E
  refine qt_iload_n 0 dX0_spot_0 rfl rfl ?_
  refine qt_iload_n 1 dX0_spot_1 rfl rfl ?_
  refine qt_icmp_le 25 dX0_spot_2 (by decide) E (fun E => ?_) (fun E => ?_)
  · refine qt_iload_n 1 dX0_spot_25 rfl rfl ?_
    refine qt_iload_n 1 dX0_spot_26 rfl rfl ?_
    refine qt_iconst dX0_spot_27 ci_1 ?_
    refine qt_iadd dX0_spot_28 ?_
    refine qt_imul dX0_spot_29 ?_
    refine qt_iconst dX0_spot_30 ci_2 ?_
    refine qt_idivK dX0_spot_31 (by decide) ?_
    refine qt_iload_n 0 dX0_spot_32 rfl rfl ?_
    refine qt_iadd dX0_spot_33 ?_
    refine qt_bipush dX0_spot_34 cb_16 ?_
    refine qt_imul dX0_spot_36 ?_
    refine qt_iload_n 2 dX0_spot_37 rfl rfl ?_
    refine qt_iadd dX0_spot_38 ?_
    refine qt_bipush dX0_spot_39 cb_16 ?_
    refine qt_imul dX0_spot_41 ?_
    refine qt_iload_n 3 dX0_spot_42 rfl rfl ?_
    refine qt_iadd dX0_spot_43 ?_
    exact qt_ireturn rfl (Nat.le_of_ble_eq_true rfl) dX0_spot_44 E G
  · refine qt_iload_n 0 dX0_spot_5 rfl rfl ?_
    refine qt_iload_n 0 dX0_spot_6 rfl rfl ?_
    refine qt_iconst dX0_spot_7 ci_1 ?_
    refine qt_iadd dX0_spot_8 ?_
    refine qt_imul dX0_spot_9 ?_
    refine qt_iconst dX0_spot_10 ci_2 ?_
    refine qt_idivK dX0_spot_11 (by decide) ?_
    refine qt_iload_n 1 dX0_spot_12 rfl rfl ?_
    refine qt_iadd dX0_spot_13 ?_
    refine qt_bipush dX0_spot_14 cb_16 ?_
    refine qt_imul dX0_spot_16 ?_
    refine qt_iload_n 3 dX0_spot_17 rfl rfl ?_
    refine qt_iadd dX0_spot_18 ?_
    refine qt_bipush dX0_spot_19 cb_16 ?_
    refine qt_imul dX0_spot_21 ?_
    refine qt_iload_n 2 dX0_spot_22 rfl rfl ?_
    refine qt_iadd dX0_spot_23 ?_
    exact qt_ireturn rfl (Nat.le_of_ble_eq_true rfl) dX0_spot_24 E G
noncomputable def f_X0_countPairs_b313 (x4 : Int32) (x6 : Int32) (h : qa_M) : Option ((Int32 × Int32 × qa_M) ⊕ qa_M) :=
  qbd (x6 + (1 : Int32)) (fun v313 : Int32 =>
  some (.inl (x4, v313, h)))
set_option maxRecDepth 20000 in
theorem s_X0_countPairs_b313 {l : Launch} {g : qa_G} {d : Nat} {rz : Option Value} {hz : qa_M} (x4 : Int32) (x6 : Int32) (h : qa_M) {z : ((Int32 × Int32 × qa_M) ⊕ qa_M)} (E : f_X0_countPairs_b313 x4 x6 h = some z) (G : (Sum.elim (fun (sz : Int32 × Int32 × qa_M) => qt_At l g (yX0_countPairs, cX0_countPairs, 9, none) (d + 1) 0 0 101 [(0, .ref (g.1 + 40)), (1, .ref (g.1 + 22)), (2, .ref (g.1 + 4)), (4, .int sz.1), (6, .int sz.2.1)] [] sz.2.2 rz hz) (qg_v rz hz)) z) : qt_At l g (yX0_countPairs, cX0_countPairs, 9, none) (d + 1) 0 0 313 [(0, .ref (g.1 + 40)), (1, .ref (g.1 + 22)), (2, .ref (g.1 + 4)), (4, .int x4), (6, .int x6)] [] h rz hz := by
  unfold f_X0_countPairs_b313 at E
  refine qt_iinc 4 (fun v313 => [(6, .int v313), (0, .ref (g.1 + 40)), (1, .ref (g.1 + 22)), (2, .ref (g.1 + 4)), (4, .int x4)]) dX0_countPairs_313 rfl ci_1 (Nat.le_of_ble_eq_true rfl) (fun _ => rfl) E (fun v313 E => ?_)
  refine qt_goto 101 dX0_countPairs_316 (by decide) ?_
  cases E
  exact qt_sub _ [1, 2, 3, 4, 0] rfl (G)
noncomputable def f_X0_countPairs_b114 (x4 : Int32) (x6 : Int32) (x7 : Int32) (h : qa_M) : Option ((Int32 × Int32 × Int32 × qa_M) ⊕ ((Int32 × Int32 × qa_M) ⊕ qa_M)) :=
  if (h.1 40 7) ≤ x7 then (
   qup (f_X0_countPairs_b313 x4 x6 h))
  else (
   qck x6 8 (
   qck x7 8 (
   qbn (m_J13_bitCount_95d88 (((h.2.1 22 15) &&& (h.2.1 7 x6.toNatClampNeg)) &&& (h.2.1 7 x7.toNatClampNeg)) h) (fun (c143 : Int32) (h143 : qa_M) =>
   qbd c143 (fun v146 : Int32 =>
   qnn (h143.2.2.1 40 8) (fun a149 =>
   qck x6 8 (
   qck x7 8 (
   qbn (m_X0_spot x6 x7 (h143.1 46 x6.toNatClampNeg) (h143.1 46 x7.toNatClampNeg) h143) (fun (c170 : Int32) (h170 : qa_M) =>
   qal 0 a149 h170 (fun n174 =>
   qck c170 n174 (
   qal 0 a149 h170 (fun n178 =>
   qck c170 n178 (
   qbd (qw_I h170 a149 c170.toNatClampNeg ((h170.1 a149 c170.toNatClampNeg) + v146)) (fun h178 : qa_M =>
   qnn (h178.2.2.1 40 8) (fun a180 =>
   qck x6 8 (
   qck x7 8 (
   qbn (m_X0_spot x6 x7 (h178.1 46 x6.toNatClampNeg) (h178.1 45 x7.toNatClampNeg) h178) (fun (c201 : Int32) (h201 : qa_M) =>
   qal 0 a180 h201 (fun n205 =>
   qck c201 n205 (
   qck x6 8 (
   qal 0 a180 h201 (fun n217 =>
   qck c201 n217 (
   qbd (qw_I h201 a180 c201.toNatClampNeg ((h201.1 a180 c201.toNatClampNeg) + ((h201.1 47 x6.toNatClampNeg) - v146))) (fun h217 : qa_M =>
   qnn (h217.2.2.1 40 8) (fun a219 =>
   qck x6 8 (
   qck x7 8 (
   qbn (m_X0_spot x6 x7 (h217.1 45 x6.toNatClampNeg) (h217.1 46 x7.toNatClampNeg) h217) (fun (c240 : Int32) (h240 : qa_M) =>
   qal 0 a219 h240 (fun n244 =>
   qck c240 n244 (
   qck x7 8 (
   qal 0 a219 h240 (fun n256 =>
   qck c240 n256 (
   qbd (qw_I h240 a219 c240.toNatClampNeg ((h240.1 a219 c240.toNatClampNeg) + ((h240.1 47 x7.toNatClampNeg) - v146))) (fun h256 : qa_M =>
   qnn (h256.2.2.1 40 8) (fun a258 =>
   qck x6 8 (
   qck x7 8 (
   qbn (m_X0_spot x6 x7 (h256.1 45 x6.toNatClampNeg) (h256.1 45 x7.toNatClampNeg) h256) (fun (c279 : Int32) (h279 : qa_M) =>
   qal 0 a258 h279 (fun n283 =>
   qck c279 n283 (
   qck x6 8 (
   qck x7 8 (
   qal 0 a258 h279 (fun n306 =>
   qck c279 n306 (
   qbd (qw_I h279 a258 c279.toNatClampNeg ((h279.1 a258 c279.toNatClampNeg) + (((x4 - (h279.1 47 x6.toNatClampNeg)) - (h279.1 47 x7.toNatClampNeg)) + v146))) (fun h306 : qa_M =>
   qbd (x7 + (1 : Int32)) (fun v307 : Int32 =>
   some (.inl (x4, x6, v307, h306))))))))))))))))))))))))))))))))))))))))))))))))
set_option maxRecDepth 20000 in
theorem s_X0_countPairs_b114 {l : Launch} {g : qa_G} {d : Nat} {rz : Option Value} {hz : qa_M} (x4 : Int32) (x6 : Int32) (x7 : Int32) (h : qa_M) {z : ((Int32 × Int32 × Int32 × qa_M) ⊕ ((Int32 × Int32 × qa_M) ⊕ qa_M))} (E : f_X0_countPairs_b114 x4 x6 x7 h = some z) (G : (Sum.elim (fun (sz : Int32 × Int32 × Int32 × qa_M) => qt_At l g (yX0_countPairs, cX0_countPairs, 9, none) (d + 1) 0 0 114 [(0, .ref (g.1 + 40)), (1, .ref (g.1 + 22)), (2, .ref (g.1 + 4)), (4, .int sz.1), (6, .int sz.2.1), (7, .int sz.2.2.1)] [] sz.2.2.2 rz hz) (Sum.elim (fun (sz : Int32 × Int32 × qa_M) => qt_At l g (yX0_countPairs, cX0_countPairs, 9, none) (d + 1) 0 0 101 [(0, .ref (g.1 + 40)), (1, .ref (g.1 + 22)), (2, .ref (g.1 + 4)), (4, .int sz.1), (6, .int sz.2.1)] [] sz.2.2 rz hz) (qg_v rz hz))) z) : qt_At l g (yX0_countPairs, cX0_countPairs, 9, none) (d + 1) 0 0 114 [(0, .ref (g.1 + 40)), (1, .ref (g.1 + 22)), (2, .ref (g.1 + 4)), (4, .int x4), (6, .int x6), (7, .int x7)] [] h rz hz := by
  unfold f_X0_countPairs_b114 at E
  refine qt_iload 5 dX0_countPairs_114 rfl ?_
  refine qt_aload_n 0 dX0_countPairs_116 rfl rfl ?_
  refine qt_getI (wl_40 h) fe_RX0_140 rfl dX0_countPairs_117 ?_
  refine qt_icmp_ge 313 dX0_countPairs_120 (by decide) E (fun E => ?_) (fun E => ?_)
  · obtain ⟨z0_, E, G⟩ := qup_g E G
    exact qt_sub _ [0, 1, 2, 3, 4] rfl ((s_X0_countPairs_b313 x4 x6 h E G))
  · refine qt_aload_n 1 dX0_countPairs_123 rfl rfl ?_
    refine qt_getJ (wl_22 h) fe_RX0_100 rfl dX0_countPairs_124 ?_
    refine qt_aload_n 2 dX0_countPairs_127 rfl rfl ?_
    refine qt_getS 7 (wl_4 h) fe_RX0_90 rfl dX0_countPairs_128 ?_
    refine qt_iload 4 dX0_countPairs_131 rfl ?_
    refine qt_lald (wl_7 h) dX0_countPairs_133 E (fun E => ?_)
    refine qt_land dX0_countPairs_134 ?_
    refine qt_aload_n 2 dX0_countPairs_135 rfl rfl ?_
    refine qt_getS 7 (wl_4 h) fe_RX0_90 rfl dX0_countPairs_136 ?_
    refine qt_iload 5 dX0_countPairs_139 rfl ?_
    refine qt_lald (wl_7 h) dX0_countPairs_141 E (fun E => ?_)
    refine qt_land dX0_countPairs_142 ?_
    obtain ⟨c143, h143, e143, E⟩ := qbn_el E
    refine qt_callSi (b2 := 0) [.long (((h.2.1 22 15) &&& (h.2.1 7 x6.toNatClampNeg)) &&& (h.2.1 7 x7.toNatClampNeg))] (c_J13_bitCount_95d88 (((h.2.1 22 15) &&& (h.2.1 7 x6.toNatClampNeg)) &&& (h.2.1 7 x7.toNatClampNeg)) h e143) cv_RX0_104 rfl (Nat.le_of_ble_eq_true rfl) (Nat.le_of_ble_eq_true rfl) dX0_countPairs_143 ?_
    refine qt_istore (fun v146 => [(8, .int v146), (0, .ref (g.1 + 40)), (1, .ref (g.1 + 22)), (2, .ref (g.1 + 4)), (4, .int x4), (6, .int x6), (7, .int x7)]) dX0_countPairs_146 (Nat.le_of_ble_eq_true rfl) (fun _ => rfl) E (fun v146 E => ?_)
    refine qt_aload_n 1 dX0_countPairs_148 rfl rfl ?_
    refine qt_getR (wl_40 h143) fe_RX0_22 rfl dX0_countPairs_149 ?_
    obtain ⟨a149, q149, E⟩ := qnn_el E
    refine qt_nn q149 ?_
    refine qt_iload 5 dX0_countPairs_152 rfl ?_
    refine qt_iload 6 dX0_countPairs_154 rfl ?_
    refine qt_aload_n 1 dX0_countPairs_156 rfl rfl ?_
    refine qt_getS 46 (wl_40 h143) fe_RX0_28 rfl dX0_countPairs_157 ?_
    refine qt_iload 5 dX0_countPairs_160 rfl ?_
    refine qt_iald (wl_46 h143) dX0_countPairs_162 E (fun E => ?_)
    refine qt_aload_n 1 dX0_countPairs_163 rfl rfl ?_
    refine qt_getS 46 (wl_40 h143) fe_RX0_28 rfl dX0_countPairs_164 ?_
    refine qt_iload 6 dX0_countPairs_167 rfl ?_
    refine qt_iald (wl_46 h143) dX0_countPairs_169 E (fun E => ?_)
    obtain ⟨c170, h170, e170, E⟩ := qbn_el E
    refine qt_callSi (b2 := 0) [.int x6, .int x7, .int (h143.1 46 x6.toNatClampNeg), .int (h143.1 46 x7.toNatClampNeg)] (c_X0_spot x6 x7 (h143.1 46 x6.toNatClampNeg) (h143.1 46 x7.toNatClampNeg) h143 e170) cv_RX0_145 rfl (Nat.le_of_ble_eq_true rfl) (Nat.le_of_ble_eq_true rfl) dX0_countPairs_170 ?_
    refine qt_dup2_11 dX0_countPairs_173 rfl rfl ?_
    obtain ⟨n174, w174, E⟩ := qal_el E
    refine qt_iald w174 dX0_countPairs_174 E (fun E => ?_)
    refine qt_iload 0 dX0_countPairs_175 rfl ?_
    refine qt_iadd dX0_countPairs_177 ?_
    obtain ⟨n178, w178, E⟩ := qal_el E
    refine qt_iast w178 dX0_countPairs_178 E (fun h178 E => ?_)
    refine qt_aload_n 1 dX0_countPairs_179 rfl rfl ?_
    refine qt_getR (wl_40 h178) fe_RX0_22 rfl dX0_countPairs_180 ?_
    obtain ⟨a180, q180, E⟩ := qnn_el E
    refine qt_nn q180 ?_
    refine qt_iload 5 dX0_countPairs_183 rfl ?_
    refine qt_iload 6 dX0_countPairs_185 rfl ?_
    refine qt_aload_n 1 dX0_countPairs_187 rfl rfl ?_
    refine qt_getS 46 (wl_40 h178) fe_RX0_28 rfl dX0_countPairs_188 ?_
    refine qt_iload 5 dX0_countPairs_191 rfl ?_
    refine qt_iald (wl_46 h178) dX0_countPairs_193 E (fun E => ?_)
    refine qt_aload_n 1 dX0_countPairs_194 rfl rfl ?_
    refine qt_getS 45 (wl_40 h178) fe_RX0_25 rfl dX0_countPairs_195 ?_
    refine qt_iload 6 dX0_countPairs_198 rfl ?_
    refine qt_iald (wl_45 h178) dX0_countPairs_200 E (fun E => ?_)
    obtain ⟨c201, h201, e201, E⟩ := qbn_el E
    refine qt_callSi (b2 := 0) [.int x6, .int x7, .int (h178.1 46 x6.toNatClampNeg), .int (h178.1 45 x7.toNatClampNeg)] (c_X0_spot x6 x7 (h178.1 46 x6.toNatClampNeg) (h178.1 45 x7.toNatClampNeg) h178 e201) cv_RX0_145 rfl (Nat.le_of_ble_eq_true rfl) (Nat.le_of_ble_eq_true rfl) dX0_countPairs_201 ?_
    refine qt_dup2_11 dX0_countPairs_204 rfl rfl ?_
    obtain ⟨n205, w205, E⟩ := qal_el E
    refine qt_iald w205 dX0_countPairs_205 E (fun E => ?_)
    refine qt_aload_n 1 dX0_countPairs_206 rfl rfl ?_
    refine qt_getS 47 (wl_40 h201) fe_RX0_31 rfl dX0_countPairs_207 ?_
    refine qt_iload 5 dX0_countPairs_210 rfl ?_
    refine qt_iald (wl_47 h201) dX0_countPairs_212 E (fun E => ?_)
    refine qt_iload 0 dX0_countPairs_213 rfl ?_
    refine qt_isub dX0_countPairs_215 ?_
    refine qt_iadd dX0_countPairs_216 ?_
    obtain ⟨n217, w217, E⟩ := qal_el E
    refine qt_iast w217 dX0_countPairs_217 E (fun h217 E => ?_)
    refine qt_aload_n 1 dX0_countPairs_218 rfl rfl ?_
    refine qt_getR (wl_40 h217) fe_RX0_22 rfl dX0_countPairs_219 ?_
    obtain ⟨a219, q219, E⟩ := qnn_el E
    refine qt_nn q219 ?_
    refine qt_iload 5 dX0_countPairs_222 rfl ?_
    refine qt_iload 6 dX0_countPairs_224 rfl ?_
    refine qt_aload_n 1 dX0_countPairs_226 rfl rfl ?_
    refine qt_getS 45 (wl_40 h217) fe_RX0_25 rfl dX0_countPairs_227 ?_
    refine qt_iload 5 dX0_countPairs_230 rfl ?_
    refine qt_iald (wl_45 h217) dX0_countPairs_232 E (fun E => ?_)
    refine qt_aload_n 1 dX0_countPairs_233 rfl rfl ?_
    refine qt_getS 46 (wl_40 h217) fe_RX0_28 rfl dX0_countPairs_234 ?_
    refine qt_iload 6 dX0_countPairs_237 rfl ?_
    refine qt_iald (wl_46 h217) dX0_countPairs_239 E (fun E => ?_)
    obtain ⟨c240, h240, e240, E⟩ := qbn_el E
    refine qt_callSi (b2 := 0) [.int x6, .int x7, .int (h217.1 45 x6.toNatClampNeg), .int (h217.1 46 x7.toNatClampNeg)] (c_X0_spot x6 x7 (h217.1 45 x6.toNatClampNeg) (h217.1 46 x7.toNatClampNeg) h217 e240) cv_RX0_145 rfl (Nat.le_of_ble_eq_true rfl) (Nat.le_of_ble_eq_true rfl) dX0_countPairs_240 ?_
    refine qt_dup2_11 dX0_countPairs_243 rfl rfl ?_
    obtain ⟨n244, w244, E⟩ := qal_el E
    refine qt_iald w244 dX0_countPairs_244 E (fun E => ?_)
    refine qt_aload_n 1 dX0_countPairs_245 rfl rfl ?_
    refine qt_getS 47 (wl_40 h240) fe_RX0_31 rfl dX0_countPairs_246 ?_
    refine qt_iload 6 dX0_countPairs_249 rfl ?_
    refine qt_iald (wl_47 h240) dX0_countPairs_251 E (fun E => ?_)
    refine qt_iload 0 dX0_countPairs_252 rfl ?_
    refine qt_isub dX0_countPairs_254 ?_
    refine qt_iadd dX0_countPairs_255 ?_
    obtain ⟨n256, w256, E⟩ := qal_el E
    refine qt_iast w256 dX0_countPairs_256 E (fun h256 E => ?_)
    refine qt_aload_n 1 dX0_countPairs_257 rfl rfl ?_
    refine qt_getR (wl_40 h256) fe_RX0_22 rfl dX0_countPairs_258 ?_
    obtain ⟨a258, q258, E⟩ := qnn_el E
    refine qt_nn q258 ?_
    refine qt_iload 5 dX0_countPairs_261 rfl ?_
    refine qt_iload 6 dX0_countPairs_263 rfl ?_
    refine qt_aload_n 1 dX0_countPairs_265 rfl rfl ?_
    refine qt_getS 45 (wl_40 h256) fe_RX0_25 rfl dX0_countPairs_266 ?_
    refine qt_iload 5 dX0_countPairs_269 rfl ?_
    refine qt_iald (wl_45 h256) dX0_countPairs_271 E (fun E => ?_)
    refine qt_aload_n 1 dX0_countPairs_272 rfl rfl ?_
    refine qt_getS 45 (wl_40 h256) fe_RX0_25 rfl dX0_countPairs_273 ?_
    refine qt_iload 6 dX0_countPairs_276 rfl ?_
    refine qt_iald (wl_45 h256) dX0_countPairs_278 E (fun E => ?_)
    obtain ⟨c279, h279, e279, E⟩ := qbn_el E
    refine qt_callSi (b2 := 0) [.int x6, .int x7, .int (h256.1 45 x6.toNatClampNeg), .int (h256.1 45 x7.toNatClampNeg)] (c_X0_spot x6 x7 (h256.1 45 x6.toNatClampNeg) (h256.1 45 x7.toNatClampNeg) h256 e279) cv_RX0_145 rfl (Nat.le_of_ble_eq_true rfl) (Nat.le_of_ble_eq_true rfl) dX0_countPairs_279 ?_
    refine qt_dup2_11 dX0_countPairs_282 rfl rfl ?_
    obtain ⟨n283, w283, E⟩ := qal_el E
    refine qt_iald w283 dX0_countPairs_283 E (fun E => ?_)
    refine qt_iload 4 dX0_countPairs_284 rfl ?_
    refine qt_aload_n 1 dX0_countPairs_286 rfl rfl ?_
    refine qt_getS 47 (wl_40 h279) fe_RX0_31 rfl dX0_countPairs_287 ?_
    refine qt_iload 5 dX0_countPairs_290 rfl ?_
    refine qt_iald (wl_47 h279) dX0_countPairs_292 E (fun E => ?_)
    refine qt_isub dX0_countPairs_293 ?_
    refine qt_aload_n 1 dX0_countPairs_294 rfl rfl ?_
    refine qt_getS 47 (wl_40 h279) fe_RX0_31 rfl dX0_countPairs_295 ?_
    refine qt_iload 6 dX0_countPairs_298 rfl ?_
    refine qt_iald (wl_47 h279) dX0_countPairs_300 E (fun E => ?_)
    refine qt_isub dX0_countPairs_301 ?_
    refine qt_iload 0 dX0_countPairs_302 rfl ?_
    refine qt_iadd dX0_countPairs_304 ?_
    refine qt_iadd dX0_countPairs_305 ?_
    obtain ⟨n306, w306, E⟩ := qal_el E
    refine qt_iast w306 dX0_countPairs_306 E (fun h306 E => ?_)
    refine qt_iinc 6 (fun v307 => [(7, .int v307), (8, .int v146), (0, .ref (g.1 + 40)), (1, .ref (g.1 + 22)), (2, .ref (g.1 + 4)), (4, .int x4), (6, .int x6)]) dX0_countPairs_307 rfl ci_1 (Nat.le_of_ble_eq_true rfl) (fun _ => rfl) E (fun v307 E => ?_)
    refine qt_goto 114 dX0_countPairs_310 (by decide) ?_
    cases E
    exact qt_sub _ [2, 3, 4, 5, 6, 0] rfl (G)
noncomputable def f_X0_countPairs_b114_loop (x4 : Int32) (x6 : Int32) (x7 : Int32) (h : qa_M) : Option ((Int32 × Int32 × qa_M) ⊕ qa_M) := qlp (fun sz : Int32 × Int32 × Int32 × qa_M => f_X0_countPairs_b114 sz.1 sz.2.1 sz.2.2.1 sz.2.2.2) (x4, x6, x7, h)
theorem s_X0_countPairs_b114_loop {l : Launch} {g : qa_G} {d : Nat} {rz : Option Value} {hz : qa_M} (x4 : Int32) (x6 : Int32) (x7 : Int32) (h : qa_M) {z : ((Int32 × Int32 × qa_M) ⊕ qa_M)} (E : f_X0_countPairs_b114_loop x4 x6 x7 h = some z) (G : (Sum.elim (fun (sz : Int32 × Int32 × qa_M) => qt_At l g (yX0_countPairs, cX0_countPairs, 9, none) (d + 1) 0 0 101 [(0, .ref (g.1 + 40)), (1, .ref (g.1 + 22)), (2, .ref (g.1 + 4)), (4, .int sz.1), (6, .int sz.2.1)] [] sz.2.2 rz hz) (qg_v rz hz)) z) : qt_At l g (yX0_countPairs, cX0_countPairs, 9, none) (d + 1) 0 0 114 [(0, .ref (g.1 + 40)), (1, .ref (g.1 + 22)), (2, .ref (g.1 + 4)), (4, .int x4), (6, .int x6), (7, .int x7)] [] h rz hz :=
  qlp_ind (fun sz : Int32 × Int32 × Int32 × qa_M => qt_At l g (yX0_countPairs, cX0_countPairs, 9, none) (d + 1) 0 0 114 [(0, .ref (g.1 + 40)), (1, .ref (g.1 + 22)), (2, .ref (g.1 + 4)), (4, .int sz.1), (6, .int sz.2.1), (7, .int sz.2.2.1)] [] sz.2.2.2 rz hz) (fun sz E => s_X0_countPairs_b114 sz.1 sz.2.1 sz.2.2.1 sz.2.2.2 E G) (fun sz sz2 E ih => s_X0_countPairs_b114 sz.1 sz.2.1 sz.2.2.1 sz.2.2.2 E ih) (x4, x6, x7, h) E
noncomputable def f_X0_countPairs_b101 (x4 : Int32) (x6 : Int32) (h : qa_M) : Option ((Int32 × Int32 × qa_M) ⊕ qa_M) :=
  if (h.1 40 7) ≤ x6 then (
   qup (some h))
  else (
   qbd x6 (fun v112 : Int32 =>
   f_X0_countPairs_b114_loop x4 x6 v112 h))
set_option maxRecDepth 20000 in
theorem s_X0_countPairs_b101 {l : Launch} {g : qa_G} {d : Nat} {rz : Option Value} {hz : qa_M} (x4 : Int32) (x6 : Int32) (h : qa_M) {z : ((Int32 × Int32 × qa_M) ⊕ qa_M)} (E : f_X0_countPairs_b101 x4 x6 h = some z) (G : (Sum.elim (fun (sz : Int32 × Int32 × qa_M) => qt_At l g (yX0_countPairs, cX0_countPairs, 9, none) (d + 1) 0 0 101 [(0, .ref (g.1 + 40)), (1, .ref (g.1 + 22)), (2, .ref (g.1 + 4)), (4, .int sz.1), (6, .int sz.2.1)] [] sz.2.2 rz hz) (qg_v rz hz)) z) : qt_At l g (yX0_countPairs, cX0_countPairs, 9, none) (d + 1) 0 0 101 [(0, .ref (g.1 + 40)), (1, .ref (g.1 + 22)), (2, .ref (g.1 + 4)), (4, .int x4), (6, .int x6)] [] h rz hz := by
  unfold f_X0_countPairs_b101 at E
  refine qt_iload 4 dX0_countPairs_101 rfl ?_
  refine qt_aload_n 0 dX0_countPairs_103 rfl rfl ?_
  refine qt_getI (wl_40 h) fe_RX0_140 rfl dX0_countPairs_104 ?_
  refine qt_icmp_ge 319 dX0_countPairs_107 (by decide) E (fun E => ?_) (fun E => ?_)
  · obtain ⟨z0_, E, G⟩ := qup_g E G
    exact qt_vreturn rfl (Nat.le_of_ble_eq_true rfl) dX0_countPairs_319 E G
  · refine qt_iload 4 dX0_countPairs_110 rfl ?_
    refine qt_istore (fun v112 => [(7, .int v112), (0, .ref (g.1 + 40)), (1, .ref (g.1 + 22)), (2, .ref (g.1 + 4)), (4, .int x4), (6, .int x6)]) dX0_countPairs_112 (Nat.le_of_ble_eq_true rfl) (fun _ => rfl) E (fun v112 E => ?_)
    exact qt_sub _ [1, 2, 3, 4, 5, 0] rfl ((s_X0_countPairs_b114_loop x4 x6 v112 h E G))
noncomputable def f_X0_countPairs_b101_loop (x4 : Int32) (x6 : Int32) (h : qa_M) : Option qa_M := qlp (fun sz : Int32 × Int32 × qa_M => f_X0_countPairs_b101 sz.1 sz.2.1 sz.2.2) (x4, x6, h)
theorem s_X0_countPairs_b101_loop {l : Launch} {g : qa_G} {d : Nat} {rz : Option Value} {hz : qa_M} (x4 : Int32) (x6 : Int32) (h : qa_M) {z : qa_M} (E : f_X0_countPairs_b101_loop x4 x6 h = some z) (G : (qg_v rz hz) z) : qt_At l g (yX0_countPairs, cX0_countPairs, 9, none) (d + 1) 0 0 101 [(0, .ref (g.1 + 40)), (1, .ref (g.1 + 22)), (2, .ref (g.1 + 4)), (4, .int x4), (6, .int x6)] [] h rz hz :=
  qlp_ind (fun sz : Int32 × Int32 × qa_M => qt_At l g (yX0_countPairs, cX0_countPairs, 9, none) (d + 1) 0 0 101 [(0, .ref (g.1 + 40)), (1, .ref (g.1 + 22)), (2, .ref (g.1 + 4)), (4, .int sz.1), (6, .int sz.2.1)] [] sz.2.2 rz hz) (fun sz E => s_X0_countPairs_b101 sz.1 sz.2.1 sz.2.2 E G) (fun sz sz2 E ih => s_X0_countPairs_b101 sz.1 sz.2.1 sz.2.2 E ih) (x4, x6, h) E
noncomputable def f_X0_countPairs_b98 (x4 : Int32) (h : qa_M) : Option qa_M :=
  qbd (0 : Int32) (fun v99 : Int32 =>
  f_X0_countPairs_b101_loop x4 v99 h)
set_option maxRecDepth 20000 in
theorem s_X0_countPairs_b98 {l : Launch} {g : qa_G} {d : Nat} {rz : Option Value} {hz : qa_M} (x4 : Int32) (h : qa_M) {z : qa_M} (E : f_X0_countPairs_b98 x4 h = some z) (G : (qg_v rz hz) z) : qt_At l g (yX0_countPairs, cX0_countPairs, 9, none) (d + 1) 0 0 98 [(0, .ref (g.1 + 40)), (1, .ref (g.1 + 22)), (2, .ref (g.1 + 4)), (4, .int x4)] [] h rz hz := by
  unfold f_X0_countPairs_b98 at E
  refine qt_iconst dX0_countPairs_98 ci_0 ?_
  refine qt_istore (fun v99 => [(6, .int v99), (0, .ref (g.1 + 40)), (1, .ref (g.1 + 22)), (2, .ref (g.1 + 4)), (4, .int x4)]) dX0_countPairs_99 (Nat.le_of_ble_eq_true rfl) (fun _ => rfl) E (fun v99 E => ?_)
  exact qt_sub _ [1, 2, 3, 4, 0] rfl ((s_X0_countPairs_b101_loop x4 v99 h E G))
noncomputable def f_X0_countPairs_b20 (x3 : Int32) (x4 : Int32) (x5 : Int32) (x6 : Int32) (h : qa_M) : Option ((Int32 × Int32 × Int32 × Int32 × qa_M) ⊕ qa_M) :=
  if (h.1 40 7) ≤ x6 then (
   qup (f_X0_countPairs_b98 x4 h))
  else (
   qck x6 8 (
   qbn (m_X7_sortsOn (h.2.1 7 x6.toNatClampNeg) h) (fun (c44 : Int32) (h44 : qa_M) =>
   qck x6 8 (
   qbd (qw_I h44 45 x6.toNatClampNeg (x3 &&& (c44 ^^^ (-1 : Int32)))) (fun h50 : qa_M =>
   qck x6 8 (
   qck x6 8 (
   qbd (qw_I h50 46 x6.toNatClampNeg ((h50.1 45 x6.toNatClampNeg) &&& (x5 ^^^ (-1 : Int32)))) (fun h69 : qa_M =>
   qck x6 8 (
   qbn (m_J13_bitCount_95d88 ((h69.2.1 22 15) &&& (h69.2.1 7 x6.toNatClampNeg)) h69) (fun (c88 : Int32) (h88 : qa_M) =>
   qck x6 8 (
   qbd (qw_I h88 47 x6.toNatClampNeg c88) (fun h91 : qa_M =>
   qbd (x6 + (1 : Int32)) (fun v92 : Int32 =>
   some (.inl (x3, x4, x5, v92, h91)))))))))))))))
set_option maxRecDepth 20000 in
theorem s_X0_countPairs_b20 {l : Launch} {g : qa_G} {d : Nat} {rz : Option Value} {hz : qa_M} (x3 : Int32) (x4 : Int32) (x5 : Int32) (x6 : Int32) (h : qa_M) {z : ((Int32 × Int32 × Int32 × Int32 × qa_M) ⊕ qa_M)} (E : f_X0_countPairs_b20 x3 x4 x5 x6 h = some z) (G : (Sum.elim (fun (sz : Int32 × Int32 × Int32 × Int32 × qa_M) => qt_At l g (yX0_countPairs, cX0_countPairs, 9, none) (d + 1) 0 0 20 [(0, .ref (g.1 + 40)), (1, .ref (g.1 + 22)), (2, .ref (g.1 + 4)), (3, .int sz.1), (4, .int sz.2.1), (5, .int sz.2.2.1), (6, .int sz.2.2.2.1)] [] sz.2.2.2.2 rz hz) (qg_v rz hz)) z) : qt_At l g (yX0_countPairs, cX0_countPairs, 9, none) (d + 1) 0 0 20 [(0, .ref (g.1 + 40)), (1, .ref (g.1 + 22)), (2, .ref (g.1 + 4)), (3, .int x3), (4, .int x4), (5, .int x5), (6, .int x6)] [] h rz hz := by
  unfold f_X0_countPairs_b20 at E
  refine qt_iload 6 dX0_countPairs_20 rfl ?_
  refine qt_aload_n 0 dX0_countPairs_22 rfl rfl ?_
  refine qt_getI (wl_40 h) fe_RX0_140 rfl dX0_countPairs_23 ?_
  refine qt_icmp_ge 98 dX0_countPairs_26 (by decide) E (fun E => ?_) (fun E => ?_)
  · obtain ⟨z0_, E, G⟩ := qup_g E G
    exact qt_sub _ [0, 1, 2, 4] rfl ((s_X0_countPairs_b98 x4 h E G))
  · refine qt_aload_n 0 dX0_countPairs_29 rfl rfl ?_
    refine qt_getS 45 (wl_40 h) fe_RX0_25 rfl dX0_countPairs_30 ?_
    refine qt_iload 6 dX0_countPairs_33 rfl ?_
    refine qt_iload_n 3 dX0_countPairs_35 rfl rfl ?_
    refine qt_aload_n 1 dX0_countPairs_36 rfl rfl ?_
    refine qt_aload_n 2 dX0_countPairs_37 rfl rfl ?_
    refine qt_getS 7 (wl_4 h) fe_RX0_90 rfl dX0_countPairs_38 ?_
    refine qt_iload 6 dX0_countPairs_41 rfl ?_
    refine qt_lald (wl_7 h) dX0_countPairs_43 E (fun E => ?_)
    obtain ⟨c44, h44, e44, E⟩ := qbn_el E
    refine qt_callVi (b2 := 0) [.long (h.2.1 7 x6.toNatClampNeg)] (c_X7_sortsOn (h.2.1 7 x6.toNatClampNeg) h e44) cv_RX0_114 (wl_22 h) rfl rfl rfl (Nat.le_of_ble_eq_true rfl) (Nat.le_of_ble_eq_true rfl) dX0_countPairs_44 ?_
    refine qt_iconst dX0_countPairs_47 ci_m1 ?_
    refine qt_ixor dX0_countPairs_48 ?_
    refine qt_iand dX0_countPairs_49 ?_
    refine qt_iast (wl_45 h44) dX0_countPairs_50 E (fun h50 E => ?_)
    refine qt_aload_n 0 dX0_countPairs_51 rfl rfl ?_
    refine qt_getS 46 (wl_40 h50) fe_RX0_28 rfl dX0_countPairs_52 ?_
    refine qt_iload 6 dX0_countPairs_55 rfl ?_
    refine qt_aload_n 0 dX0_countPairs_57 rfl rfl ?_
    refine qt_getS 45 (wl_40 h50) fe_RX0_25 rfl dX0_countPairs_58 ?_
    refine qt_iload 6 dX0_countPairs_61 rfl ?_
    refine qt_iald (wl_45 h50) dX0_countPairs_63 E (fun E => ?_)
    refine qt_iload 5 dX0_countPairs_64 rfl ?_
    refine qt_iconst dX0_countPairs_66 ci_m1 ?_
    refine qt_ixor dX0_countPairs_67 ?_
    refine qt_iand dX0_countPairs_68 ?_
    refine qt_iast (wl_46 h50) dX0_countPairs_69 E (fun h69 E => ?_)
    refine qt_aload_n 0 dX0_countPairs_70 rfl rfl ?_
    refine qt_getS 47 (wl_40 h69) fe_RX0_31 rfl dX0_countPairs_71 ?_
    refine qt_iload 6 dX0_countPairs_74 rfl ?_
    refine qt_aload_n 1 dX0_countPairs_76 rfl rfl ?_
    refine qt_getJ (wl_22 h69) fe_RX0_100 rfl dX0_countPairs_77 ?_
    refine qt_aload_n 2 dX0_countPairs_80 rfl rfl ?_
    refine qt_getS 7 (wl_4 h69) fe_RX0_90 rfl dX0_countPairs_81 ?_
    refine qt_iload 6 dX0_countPairs_84 rfl ?_
    refine qt_lald (wl_7 h69) dX0_countPairs_86 E (fun E => ?_)
    refine qt_land dX0_countPairs_87 ?_
    obtain ⟨c88, h88, e88, E⟩ := qbn_el E
    refine qt_callSi (b2 := 0) [.long ((h69.2.1 22 15) &&& (h69.2.1 7 x6.toNatClampNeg))] (c_J13_bitCount_95d88 ((h69.2.1 22 15) &&& (h69.2.1 7 x6.toNatClampNeg)) h69 e88) cv_RX0_104 rfl (Nat.le_of_ble_eq_true rfl) (Nat.le_of_ble_eq_true rfl) dX0_countPairs_88 ?_
    refine qt_iast (wl_47 h88) dX0_countPairs_91 E (fun h91 E => ?_)
    refine qt_iinc 6 (fun v92 => [(6, .int v92), (0, .ref (g.1 + 40)), (1, .ref (g.1 + 22)), (2, .ref (g.1 + 4)), (3, .int x3), (4, .int x4), (5, .int x5)]) dX0_countPairs_92 rfl ci_1 (Nat.le_of_ble_eq_true rfl) (fun _ => rfl) E (fun v92 E => ?_)
    refine qt_goto 20 dX0_countPairs_95 (by decide) ?_
    cases E
    exact qt_sub _ [1, 2, 3, 4, 5, 6, 0] rfl (G)
noncomputable def f_X0_countPairs_b20_loop (x3 : Int32) (x4 : Int32) (x5 : Int32) (x6 : Int32) (h : qa_M) : Option qa_M := qlp (fun sz : Int32 × Int32 × Int32 × Int32 × qa_M => f_X0_countPairs_b20 sz.1 sz.2.1 sz.2.2.1 sz.2.2.2.1 sz.2.2.2.2) (x3, x4, x5, x6, h)
theorem s_X0_countPairs_b20_loop {l : Launch} {g : qa_G} {d : Nat} {rz : Option Value} {hz : qa_M} (x3 : Int32) (x4 : Int32) (x5 : Int32) (x6 : Int32) (h : qa_M) {z : qa_M} (E : f_X0_countPairs_b20_loop x3 x4 x5 x6 h = some z) (G : (qg_v rz hz) z) : qt_At l g (yX0_countPairs, cX0_countPairs, 9, none) (d + 1) 0 0 20 [(0, .ref (g.1 + 40)), (1, .ref (g.1 + 22)), (2, .ref (g.1 + 4)), (3, .int x3), (4, .int x4), (5, .int x5), (6, .int x6)] [] h rz hz :=
  qlp_ind (fun sz : Int32 × Int32 × Int32 × Int32 × qa_M => qt_At l g (yX0_countPairs, cX0_countPairs, 9, none) (d + 1) 0 0 20 [(0, .ref (g.1 + 40)), (1, .ref (g.1 + 22)), (2, .ref (g.1 + 4)), (3, .int sz.1), (4, .int sz.2.1), (5, .int sz.2.2.1), (6, .int sz.2.2.2.1)] [] sz.2.2.2.2 rz hz) (fun sz E => s_X0_countPairs_b20 sz.1 sz.2.1 sz.2.2.1 sz.2.2.2.1 sz.2.2.2.2 E G) (fun sz sz2 E ih => s_X0_countPairs_b20 sz.1 sz.2.1 sz.2.2.1 sz.2.2.2.1 sz.2.2.2.2 E ih) (x3, x4, x5, x6, h) E
noncomputable def m_X0_countPairs (x3 : Int32) (h : qa_M) : Option qa_M :=
  qbn (m_J13_bitCount_95d88 (h.2.1 22 15) h) (fun (c4 : Int32) (h4 : qa_M) =>
  qbd c4 (fun v7 : Int32 =>
  qbn (m_X7_lastSort h4) (fun (c11 : Int32) (h11 : qa_M) =>
  qbd ((1 : Int32) <<< (c11 &&& 31)) (fun v15 : Int32 =>
  qbd (0 : Int32) (fun v18 : Int32 =>
  f_X0_countPairs_b20_loop x3 v7 v15 v18 h11)))))
set_option maxRecDepth 20000 in
theorem c_X0_countPairs {l : Launch} {g : qa_G} {d : Nat} (x3 : Int32) (h : qa_M) {h1 : qa_M} (E : m_X0_countPairs x3 h = some h1) : qt_Met l g (yX0_countPairs, cX0_countPairs, 9, none) (d + 1) 0 [.ref (g.1 + 40), .ref (g.1 + 22), .ref (g.1 + 4), .int x3] h none h1 := by
  refine qt_Met.of (plainFor_of_name (by decide)) (Nat.le_of_ble_eq_true rfl) ?_
  have G : qg_v none h1 (h1) := ⟨rfl, rfl⟩
  unfold m_X0_countPairs at E
  refine qt_aload_n 1 dX0_countPairs_0 rfl rfl ?_
  refine qt_getJ (wl_22 h) fe_RX0_100 rfl dX0_countPairs_1 ?_
  obtain ⟨c4, h4, e4, E⟩ := qbn_el E
  refine qt_callSi (b2 := 0) [.long (h.2.1 22 15)] (c_J13_bitCount_95d88 (h.2.1 22 15) h e4) cv_RX0_104 rfl (Nat.le_of_ble_eq_true rfl) (Nat.le_of_ble_eq_true rfl) dX0_countPairs_4 ?_
  refine qt_istore (fun v7 => [(4, .int v7), (0, .ref (g.1 + 40)), (1, .ref (g.1 + 22)), (2, .ref (g.1 + 4)), (3, .int x3)]) dX0_countPairs_7 (Nat.le_of_ble_eq_true rfl) (fun _ => rfl) E (fun v7 E => ?_)
  refine qt_iconst dX0_countPairs_9 ci_1 ?_
  refine qt_aload_n 2 dX0_countPairs_10 rfl rfl ?_
  obtain ⟨c11, h11, e11, E⟩ := qbn_el E
  refine qt_callVi (b2 := 0) [] (c_X7_lastSort h4 e11) cv_RX0_110 (wl_22 h4) rfl rfl rfl (Nat.le_of_ble_eq_true rfl) (Nat.le_of_ble_eq_true rfl) dX0_countPairs_11 ?_
  refine qt_ishl dX0_countPairs_14 ?_
  refine qt_istore (fun v15 => [(5, .int v15), (4, .int v7), (0, .ref (g.1 + 40)), (1, .ref (g.1 + 22)), (2, .ref (g.1 + 4)), (3, .int x3)]) dX0_countPairs_15 (Nat.le_of_ble_eq_true rfl) (fun _ => rfl) E (fun v15 E => ?_)
  refine qt_iconst dX0_countPairs_17 ci_0 ?_
  refine qt_istore (fun v18 => [(6, .int v18), (5, .int v15), (4, .int v7), (0, .ref (g.1 + 40)), (1, .ref (g.1 + 22)), (2, .ref (g.1 + 4)), (3, .int x3)]) dX0_countPairs_18 (Nat.le_of_ble_eq_true rfl) (fun _ => rfl) E (fun v18 E => ?_)
  exact qt_sub _ [3, 4, 5, 6, 2, 1, 0] rfl ((s_X0_countPairs_b20_loop x3 v7 v15 v18 h11 E G))
noncomputable def f_X0_lookTwice_b80 (x5 : Int32) (x6 : Int32) (h : qa_M) : Option ((Int32 × Int32 × qa_M) ⊕ qa_M) :=
  if (2000000 : Int32) ≤ x6 then (
   qup (some h))
  else (
   qbn (m_X7_step h) (fun (c88 : Int32) (h88 : qa_M) =>
   if c88 = 0 then (
    qup (some h88))
   else (
    qbv (m_X0_countPairs x5 h88) (fun h99 : qa_M =>
    qbd (x6 + (1 : Int32)) (fun v102 : Int32 =>
    some (.inl (x5, v102, h99)))))))
set_option maxRecDepth 20000 in
theorem s_X0_lookTwice_b80 {l : Launch} {g : qa_G} {d : Nat} {rz : Option Value} {hz : qa_M} (x5 : Int32) (x6 : Int32) (h : qa_M) {z : ((Int32 × Int32 × qa_M) ⊕ qa_M)} (E : f_X0_lookTwice_b80 x5 x6 h = some z) (G : (Sum.elim (fun (sz : Int32 × Int32 × qa_M) => qt_At l g (yX0_lookTwice, cX0_lookTwice, 7, none) (d + 4) 1 1 80 [(0, .ref (g.1 + 40)), (1, .ref (g.1 + 22)), (2, .ref (g.1 + 4)), (5, .int sz.1), (6, .int sz.2.1)] [] sz.2.2 rz hz) (qg_v rz hz)) z) : qt_At l g (yX0_lookTwice, cX0_lookTwice, 7, none) (d + 4) 1 1 80 [(0, .ref (g.1 + 40)), (1, .ref (g.1 + 22)), (2, .ref (g.1 + 4)), (5, .int x5), (6, .int x6)] [] h rz hz := by
  unfold f_X0_lookTwice_b80 at E
  refine qt_iload 4 dX0_lookTwice_80 rfl ?_
  refine qt_ldc tb_1196 dX0_lookTwice_82 ?_
  refine qt_icmp_ge 108 dX0_lookTwice_84 (by decide) E (fun E => ?_) (fun E => ?_)
  · obtain ⟨z0_, E, G⟩ := qup_g E G
    exact qt_vreturn rfl (Nat.le_of_ble_eq_true rfl) dX0_lookTwice_108 E G
  · refine qt_aload_n 1 dX0_lookTwice_87 rfl rfl ?_
    obtain ⟨c88, h88, e88, E⟩ := qbn_el E
    refine qt_callVi (b2 := 0) [] (c_X7_step h e88) cv_RX0_76 (wl_22 h) rfl rfl rfl (Nat.le_of_ble_eq_true rfl) (Nat.le_of_ble_eq_true rfl) dX0_lookTwice_88 ?_
    refine qt_if_eq 108 dX0_lookTwice_91 (by decide) E (fun E => ?_) (fun E => ?_)
    · obtain ⟨z0_, E, G⟩ := qup_g E G
      exact qt_vreturn rfl (Nat.le_of_ble_eq_true rfl) dX0_lookTwice_108 E G
    · refine qt_aload_n 0 dX0_lookTwice_94 rfl rfl ?_
      refine qt_aload_n 1 dX0_lookTwice_95 rfl rfl ?_
      refine qt_aload_n 2 dX0_lookTwice_96 rfl rfl ?_
      refine qt_iload 3 dX0_lookTwice_97 rfl ?_
      obtain ⟨h99, e99, E⟩ := qbv_el E
      refine qt_callVv (b2 := 0) [.ref (g.1 + 22), .ref (g.1 + 4), .int x5] (c_X0_countPairs x5 h88 e99) cv_RX0_141 (wl_40 h88) rfl rfl rfl (Nat.le_of_ble_eq_true rfl) (Nat.le_of_ble_eq_true rfl) dX0_lookTwice_99 ?_
      refine qt_iinc 4 (fun v102 => [(6, .int v102), (0, .ref (g.1 + 40)), (1, .ref (g.1 + 22)), (2, .ref (g.1 + 4)), (5, .int x5)]) dX0_lookTwice_102 rfl ci_1 (Nat.le_of_ble_eq_true rfl) (fun _ => rfl) E (fun v102 E => ?_)
      refine qt_goto 80 dX0_lookTwice_105 (by decide) ?_
      cases E
      exact qt_sub _ [1, 2, 3, 4, 0] rfl (G)
noncomputable def f_X0_lookTwice_b80_loop (x5 : Int32) (x6 : Int32) (h : qa_M) : Option qa_M := qlp (fun sz : Int32 × Int32 × qa_M => f_X0_lookTwice_b80 sz.1 sz.2.1 sz.2.2) (x5, x6, h)
theorem s_X0_lookTwice_b80_loop {l : Launch} {g : qa_G} {d : Nat} {rz : Option Value} {hz : qa_M} (x5 : Int32) (x6 : Int32) (h : qa_M) {z : qa_M} (E : f_X0_lookTwice_b80_loop x5 x6 h = some z) (G : (qg_v rz hz) z) : qt_At l g (yX0_lookTwice, cX0_lookTwice, 7, none) (d + 4) 1 1 80 [(0, .ref (g.1 + 40)), (1, .ref (g.1 + 22)), (2, .ref (g.1 + 4)), (5, .int x5), (6, .int x6)] [] h rz hz :=
  qlp_ind (fun sz : Int32 × Int32 × qa_M => qt_At l g (yX0_lookTwice, cX0_lookTwice, 7, none) (d + 4) 1 1 80 [(0, .ref (g.1 + 40)), (1, .ref (g.1 + 22)), (2, .ref (g.1 + 4)), (5, .int sz.1), (6, .int sz.2.1)] [] sz.2.2 rz hz) (fun sz E => s_X0_lookTwice_b80 sz.1 sz.2.1 sz.2.2 E G) (fun sz sz2 E ih => s_X0_lookTwice_b80 sz.1 sz.2.1 sz.2.2 E ih) (x5, x6, h) E
noncomputable def f_X0_lookTwice_b54 (x3 : Int32) (h : qa_M) : Option qa_M :=
  qnn (h.2.2.1 40 8) (fun a55 =>
  qbv (m_J7_fill_53178 a55 (0 : Int32) h) (fun h59 : qa_M =>
  qbd (((1 : Int32) <<< ((h59.1 4 4) &&& 31)) - (1 : Int32)) (fun v70 : Int32 =>
  qbv (m_X7_start x3 h59) (fun h74 : qa_M =>
  qbd (0 : Int32) (fun v78 : Int32 =>
  f_X0_lookTwice_b80_loop v70 v78 h74)))))
set_option maxRecDepth 20000 in
theorem s_X0_lookTwice_b54 {l : Launch} {g : qa_G} {d : Nat} {rz : Option Value} {hz : qa_M} (x3 : Int32) (h : qa_M) {z : qa_M} (E : f_X0_lookTwice_b54 x3 h = some z) (G : (qg_v rz hz) z) : qt_At l g (yX0_lookTwice, cX0_lookTwice, 7, none) (d + 4) 1 1 54 [(0, .ref (g.1 + 40)), (1, .ref (g.1 + 22)), (2, .ref (g.1 + 4)), (3, .int x3)] [] h rz hz := by
  unfold f_X0_lookTwice_b54 at E
  refine qt_aload_n 0 dX0_lookTwice_54 rfl rfl ?_
  refine qt_getR (wl_40 h) fe_RX0_22 rfl dX0_lookTwice_55 ?_
  obtain ⟨a55, q55, E⟩ := qnn_el E
  refine qt_nn q55 ?_
  refine qt_iconst dX0_lookTwice_58 ci_0 ?_
  obtain ⟨h59, e59, E⟩ := qbv_el E
  refine qt_callSv (b2 := 0) [.ref (g.1 + a55), .int (0 : Int32)] (c_J7_fill_53178 a55 (0 : Int32) h e59) cv_RX0_58 rfl (Nat.le_of_ble_eq_true rfl) (Nat.le_of_ble_eq_true rfl) dX0_lookTwice_59 ?_
  refine qt_iconst dX0_lookTwice_62 ci_1 ?_
  refine qt_aload_n 2 dX0_lookTwice_63 rfl rfl ?_
  refine qt_getI (wl_4 h59) fe_RX0_70 rfl dX0_lookTwice_64 ?_
  refine qt_ishl dX0_lookTwice_67 ?_
  refine qt_iconst dX0_lookTwice_68 ci_1 ?_
  refine qt_isub dX0_lookTwice_69 ?_
  refine qt_istore (fun v70 => [(5, .int v70), (0, .ref (g.1 + 40)), (1, .ref (g.1 + 22)), (2, .ref (g.1 + 4)), (3, .int x3)]) dX0_lookTwice_70 (Nat.le_of_ble_eq_true rfl) (fun _ => rfl) E (fun v70 E => ?_)
  refine qt_aload_n 2 dX0_lookTwice_72 rfl rfl ?_
  refine qt_iload_n 4 dX0_lookTwice_73 rfl rfl ?_
  obtain ⟨h74, e74, E⟩ := qbv_el E
  refine qt_callVv (b2 := 0) [.int x3] (c_X7_start x3 h59 e74) cv_RX0_64 (wl_22 h59) rfl rfl rfl (Nat.le_of_ble_eq_true rfl) (Nat.le_of_ble_eq_true rfl) dX0_lookTwice_74 ?_
  refine qt_iconst dX0_lookTwice_77 ci_0 ?_
  refine qt_istore (fun v78 => [(6, .int v78), (5, .int v70), (0, .ref (g.1 + 40)), (1, .ref (g.1 + 22)), (2, .ref (g.1 + 4)), (3, .int x3)]) dX0_lookTwice_78 (Nat.le_of_ble_eq_true rfl) (fun _ => rfl) E (fun v78 E => ?_)
  exact qt_sub _ [2, 3, 4, 1, 0] rfl ((s_X0_lookTwice_b80_loop v70 v78 h74 E G))
noncomputable def f_X0_lookTwice_b18 (x3 : Int32) (x4 : Int32) (h : qa_M) : Option qa_M :=
  qbd (qw_I h 40 12 x4) (fun h21 : qa_M =>
  qbd (qw_I h21 40 13 x3) (fun h26 : qa_M =>
  qbd (qw_I h26 40 7 (h26.1 4 2)) (fun h34 : qa_M =>
  qnn (h34.2.2.1 40 8) (fun a38 =>
  qal 0 a38 h34 (fun n41 =>
  if (nI n41) = 0 then (
   qbd (qw_new h34) (fun h49 : qa_M =>
   qbd (qw_R h49 40 8 ((167 + h34.2.2.2) + 1)) (fun h51 : qa_M =>
   f_X0_lookTwice_b54 x3 h51)))
  else (
   f_X0_lookTwice_b54 x3 h34))))))
set_option maxRecDepth 20000 in
theorem s_X0_lookTwice_b18 {l : Launch} {g : qa_G} {d : Nat} {rz : Option Value} {hz : qa_M} (x3 : Int32) (x4 : Int32) (h : qa_M) {z : qa_M} (E : f_X0_lookTwice_b18 x3 x4 h = some z) (G : (qg_v rz hz) z) : qt_At l g (yX0_lookTwice, cX0_lookTwice, 7, none) (d + 4) 1 0 18 [(0, .ref (g.1 + 40)), (1, .ref (g.1 + 22)), (2, .ref (g.1 + 4)), (3, .int x3), (4, .int x4)] [] h rz hz := by
  unfold f_X0_lookTwice_b18 at E
  refine qt_aload_n 0 dX0_lookTwice_18 rfl rfl ?_
  refine qt_iload 4 dX0_lookTwice_19 rfl ?_
  refine qt_putI (wl_40 h) fd_RX0_134 rfl rfl rfl dX0_lookTwice_21 E (fun h21 E => ?_)
  refine qt_aload_n 0 dX0_lookTwice_24 rfl rfl ?_
  refine qt_iload_n 3 dX0_lookTwice_25 rfl rfl ?_
  refine qt_putI (wl_40 h21) fd_RX0_137 rfl rfl rfl dX0_lookTwice_26 E (fun h26 E => ?_)
  refine qt_aload_n 0 dX0_lookTwice_29 rfl rfl ?_
  refine qt_aload_n 2 dX0_lookTwice_30 rfl rfl ?_
  refine qt_getI (wl_4 h26) fe_RX0_84 rfl dX0_lookTwice_31 ?_
  refine qt_putI (wl_40 h26) fd_RX0_140 rfl rfl rfl dX0_lookTwice_34 E (fun h34 E => ?_)
  refine qt_aload_n 0 dX0_lookTwice_37 rfl rfl ?_
  refine qt_getR (wl_40 h34) fe_RX0_22 rfl dX0_lookTwice_38 ?_
  obtain ⟨a38, q38, E⟩ := qnn_el E
  refine qt_nn q38 ?_
  obtain ⟨n41, w41, E⟩ := qal_el E
  refine qt_alen (v := nI n41) (by decide) w41 rfl dX0_lookTwice_41 ?_
  refine qt_if_ne 54 dX0_lookTwice_42 (by decide) E (fun E => ?_) (fun E => ?_)
  · exact qt_sub _ [0, 1, 2, 3] rfl (qt_widen (Nat.le_of_ble_eq_true rfl) (s_X0_lookTwice_b54 x3 h34 E G))
  · refine qt_aload_n 0 dX0_lookTwice_45 rfl rfl ?_
    refine qt_sipush dX0_lookTwice_46 cs_9216 ?_
    refine qt_newL dX0_lookTwice_49 rfl E (fun h49 E => ?_)
    refine qt_putR (wl_40 h49) fd_RX0_22 rfl rfl rfl dX0_lookTwice_51 E (fun h51 E => ?_)
    exact qt_sub _ [0, 1, 2, 3] rfl ((s_X0_lookTwice_b54 x3 h51 E G))
noncomputable def m_X0_lookTwice (x3 : Int32) (x4 : Int32) (h : qa_M) : Option qa_M :=
  if (h.1 40 12) = x4 then (
   if (h.1 40 13) = x3 then (
    some h)
   else (
    f_X0_lookTwice_b18 x3 x4 h))
  else (
   f_X0_lookTwice_b18 x3 x4 h)
set_option maxRecDepth 20000 in
theorem c_X0_lookTwice {l : Launch} {g : qa_G} {d : Nat} (x3 : Int32) (x4 : Int32) (h : qa_M) {h1 : qa_M} (E : m_X0_lookTwice x3 x4 h = some h1) : qt_Met l g (yX0_lookTwice, cX0_lookTwice, 7, none) (d + 4) 1 [.ref (g.1 + 40), .ref (g.1 + 22), .ref (g.1 + 4), .int x3, .int x4] h none h1 := by
  refine qt_Met.of (plainFor_of_name (by decide)) (Nat.le_of_ble_eq_true rfl) ?_
  have G : qg_v none h1 (h1) := ⟨rfl, rfl⟩
  unfold m_X0_lookTwice at E
  refine qt_aload_n 0 dX0_lookTwice_0 rfl rfl ?_
  refine qt_getI (wl_40 h) fe_RX0_134 rfl dX0_lookTwice_1 ?_
  refine qt_iload 4 dX0_lookTwice_4 rfl ?_
  refine qt_icmp_ne 18 dX0_lookTwice_6 (by decide) E (fun E => ?_) (fun E => ?_)
  · exact qt_sub _ [0, 1, 2, 3, 4] rfl ((s_X0_lookTwice_b18 x3 x4 h E G))
  · refine qt_aload_n 0 dX0_lookTwice_9 rfl rfl ?_
    refine qt_getI (wl_40 h) fe_RX0_137 rfl dX0_lookTwice_10 ?_
    refine qt_iload_n 3 dX0_lookTwice_13 rfl rfl ?_
    refine qt_icmp_ne 18 dX0_lookTwice_14 (by decide) E (fun E => ?_) (fun E => ?_)
    · exact qt_sub _ [0, 1, 2, 3, 4] rfl ((s_X0_lookTwice_b18 x3 x4 h E G))
    · exact qt_vreturn rfl (Nat.le_of_ble_eq_true rfl) dX0_lookTwice_17 E G
noncomputable def m_X11_lookFromTwo (x1 : Int32) (h : qa_M) : Option qa_M :=
  qbv (m_X11_prepare h) (fun h1 : qa_M =>
  qbv (m_X0_lookTwice x1 (h1.1 0 13) h1) (fun h24 : qa_M =>
  some h24))
set_option maxRecDepth 20000 in
theorem c_X11_lookFromTwo {l : Launch} {g : qa_G} {d : Nat} (x1 : Int32) (h : qa_M) {h1 : qa_M} (E : m_X11_lookFromTwo x1 h = some h1) : qt_Met l g (yX11_lookFromTwo, cX11_lookFromTwo, 2, none) (d + 6) 1 [.ref (g.1 + 0), .int x1] h none h1 := by
  refine qt_Met.of (plainFor_of_name (by decide)) (Nat.le_of_ble_eq_true rfl) ?_
  have G : qg_v none h1 (h1) := ⟨rfl, rfl⟩
  unfold m_X11_lookFromTwo at E
  refine qt_aload_n 0 dX11_lookFromTwo_0 rfl rfl ?_
  obtain ⟨h1, e1, E⟩ := qbv_el E
  refine qt_callVv (b2 := 0) [] (c_X11_prepare h e1) cv_RX11_164 (wl_0 h) rfl rfl rfl (Nat.le_of_ble_eq_true rfl) (Nat.le_of_ble_eq_true rfl) dX11_lookFromTwo_1 ?_
  refine qt_aload_n 0 dX11_lookFromTwo_4 rfl rfl ?_
  refine qt_getS 40 (wl_0 h1) fe_RX11_81 rfl dX11_lookFromTwo_5 ?_
  refine qt_aload_n 0 dX11_lookFromTwo_8 rfl rfl ?_
  refine qt_getS 22 (wl_0 h1) fe_RX11_67 rfl dX11_lookFromTwo_9 ?_
  refine qt_aload_n 0 dX11_lookFromTwo_12 rfl rfl ?_
  refine qt_getS 3 (wl_0 h1) fe_RX11_19 rfl dX11_lookFromTwo_13 ?_
  refine qt_getS 4 (wl_3 h1) fe_RX11_108 rfl dX11_lookFromTwo_16 ?_
  refine qt_iload_n 1 dX11_lookFromTwo_19 rfl rfl ?_
  refine qt_aload_n 0 dX11_lookFromTwo_20 rfl rfl ?_
  refine qt_getI (wl_0 h1) fe_RX11_92 rfl dX11_lookFromTwo_21 ?_
  obtain ⟨h24, e24, E⟩ := qbv_el E
  refine qt_callVv (b2 := 1) [.ref (g.1 + 22), .ref (g.1 + 4), .int x1, .int (h1.1 0 13)] (c_X0_lookTwice x1 (h1.1 0 13) h1 e24) cv_RX11_299 (wl_40 h1) rfl rfl rfl (Nat.le_of_ble_eq_true rfl) (Nat.le_of_ble_eq_true rfl) dX11_lookFromTwo_24 ?_
  exact qt_vreturn rfl (Nat.le_of_ble_eq_true rfl) dX11_lookFromTwo_27 E G
noncomputable def f_X0_greatestAfter_b6 (x1 : Int32) (x2 : Int32) (x3 : Int32) (x4 : Int32) (x5 : Int32) (h : qa_M) : Option ((Int32 × Int32 × Int32 × Int32 × Int32 × qa_M) ⊕ (Int32 × qa_M)) :=
  if (16 : Int32) ≤ x5 then (
   qup (some (x4, h)))
  else (
   qnn (h.2.2.1 40 8) (fun a16 =>
   qbn (m_X0_spot x1 x3 x2 x5 h) (fun (c24 : Int32) (h24 : qa_M) =>
   qal 0 a16 h24 (fun n27 =>
   qck c24 n27 (
   qbd (q_max x4 (h24.1 a16 c24.toNatClampNeg)) (fun v31 : Int32 =>
   qbd (x5 + (1 : Int32)) (fun v33 : Int32 =>
   some (.inl (x1, x2, x3, v31, v33, h24)))))))))
set_option maxRecDepth 20000 in
theorem s_X0_greatestAfter_b6 {l : Launch} {g : qa_G} {d : Nat} {rz : Option Value} {hz : qa_M} (x1 : Int32) (x2 : Int32) (x3 : Int32) (x4 : Int32) (x5 : Int32) (h : qa_M) {z : ((Int32 × Int32 × Int32 × Int32 × Int32 × qa_M) ⊕ (Int32 × qa_M))} (E : f_X0_greatestAfter_b6 x1 x2 x3 x4 x5 h = some z) (G : (Sum.elim (fun (sz : Int32 × Int32 × Int32 × Int32 × Int32 × qa_M) => qt_At l g (yX0_greatestAfter, cX0_greatestAfter, 6, (some .int)) (d + 1) 0 0 6 [(0, .ref (g.1 + 40)), (1, .int sz.1), (2, .int sz.2.1), (3, .int sz.2.2.1), (4, .int sz.2.2.2.1), (5, .int sz.2.2.2.2.1)] [] sz.2.2.2.2.2 rz hz) (qg_i rz hz)) z) : qt_At l g (yX0_greatestAfter, cX0_greatestAfter, 6, (some .int)) (d + 1) 0 0 6 [(0, .ref (g.1 + 40)), (1, .int x1), (2, .int x2), (3, .int x3), (4, .int x4), (5, .int x5)] [] h rz hz := by
  unfold f_X0_greatestAfter_b6 at E
  refine qt_iload 5 dX0_greatestAfter_6 rfl ?_
  refine qt_bipush dX0_greatestAfter_8 cb_16 ?_
  refine qt_icmp_ge 39 dX0_greatestAfter_10 (by decide) E (fun E => ?_) (fun E => ?_)
  · refine qt_iload 4 dX0_greatestAfter_39 rfl ?_
    obtain ⟨z0_, E, G⟩ := qup_g E G
    exact qt_ireturn rfl (Nat.le_of_ble_eq_true rfl) dX0_greatestAfter_41 E G
  · refine qt_iload 4 dX0_greatestAfter_13 rfl ?_
    refine qt_aload_n 0 dX0_greatestAfter_15 rfl rfl ?_
    refine qt_getR (wl_40 h) fe_RX0_22 rfl dX0_greatestAfter_16 ?_
    obtain ⟨a16, q16, E⟩ := qnn_el E
    refine qt_nn q16 ?_
    refine qt_iload_n 1 dX0_greatestAfter_19 rfl rfl ?_
    refine qt_iload_n 3 dX0_greatestAfter_20 rfl rfl ?_
    refine qt_iload_n 2 dX0_greatestAfter_21 rfl rfl ?_
    refine qt_iload 5 dX0_greatestAfter_22 rfl ?_
    obtain ⟨c24, h24, e24, E⟩ := qbn_el E
    refine qt_callSi (b2 := 0) [.int x1, .int x3, .int x2, .int x5] (c_X0_spot x1 x3 x2 x5 h e24) cv_RX0_145 rfl (Nat.le_of_ble_eq_true rfl) (Nat.le_of_ble_eq_true rfl) dX0_greatestAfter_24 ?_
    obtain ⟨n27, w27, E⟩ := qal_el E
    refine qt_iald w27 dX0_greatestAfter_27 E (fun E => ?_)
    refine qt_mmax tb_1212 dX0_greatestAfter_28 (Nat.le_of_ble_eq_true rfl) ?_
    refine qt_istore (fun v31 => [(4, .int v31), (0, .ref (g.1 + 40)), (1, .int x1), (2, .int x2), (3, .int x3), (5, .int x5)]) dX0_greatestAfter_31 (Nat.le_of_ble_eq_true rfl) (fun _ => rfl) E (fun v31 E => ?_)
    refine qt_iinc 5 (fun v33 => [(5, .int v33), (4, .int v31), (0, .ref (g.1 + 40)), (1, .int x1), (2, .int x2), (3, .int x3)]) dX0_greatestAfter_33 rfl ci_1 (Nat.le_of_ble_eq_true rfl) (fun _ => rfl) E (fun v33 E => ?_)
    refine qt_goto 6 dX0_greatestAfter_36 (by decide) ?_
    cases E
    exact qt_sub _ [2, 3, 4, 5, 1, 0] rfl (G)
noncomputable def f_X0_greatestAfter_b6_loop (x1 : Int32) (x2 : Int32) (x3 : Int32) (x4 : Int32) (x5 : Int32) (h : qa_M) : Option (Int32 × qa_M) := qlp (fun sz : Int32 × Int32 × Int32 × Int32 × Int32 × qa_M => f_X0_greatestAfter_b6 sz.1 sz.2.1 sz.2.2.1 sz.2.2.2.1 sz.2.2.2.2.1 sz.2.2.2.2.2) (x1, x2, x3, x4, x5, h)
theorem s_X0_greatestAfter_b6_loop {l : Launch} {g : qa_G} {d : Nat} {rz : Option Value} {hz : qa_M} (x1 : Int32) (x2 : Int32) (x3 : Int32) (x4 : Int32) (x5 : Int32) (h : qa_M) {z : (Int32 × qa_M)} (E : f_X0_greatestAfter_b6_loop x1 x2 x3 x4 x5 h = some z) (G : (qg_i rz hz) z) : qt_At l g (yX0_greatestAfter, cX0_greatestAfter, 6, (some .int)) (d + 1) 0 0 6 [(0, .ref (g.1 + 40)), (1, .int x1), (2, .int x2), (3, .int x3), (4, .int x4), (5, .int x5)] [] h rz hz :=
  qlp_ind (fun sz : Int32 × Int32 × Int32 × Int32 × Int32 × qa_M => qt_At l g (yX0_greatestAfter, cX0_greatestAfter, 6, (some .int)) (d + 1) 0 0 6 [(0, .ref (g.1 + 40)), (1, .int sz.1), (2, .int sz.2.1), (3, .int sz.2.2.1), (4, .int sz.2.2.2.1), (5, .int sz.2.2.2.2.1)] [] sz.2.2.2.2.2 rz hz) (fun sz E => s_X0_greatestAfter_b6 sz.1 sz.2.1 sz.2.2.1 sz.2.2.2.1 sz.2.2.2.2.1 sz.2.2.2.2.2 E G) (fun sz sz2 E ih => s_X0_greatestAfter_b6 sz.1 sz.2.1 sz.2.2.1 sz.2.2.2.1 sz.2.2.2.2.1 sz.2.2.2.2.2 E ih) (x1, x2, x3, x4, x5, h) E
noncomputable def m_X0_greatestAfter (x1 : Int32) (x2 : Int32) (x3 : Int32) (h : qa_M) : Option (Int32 × qa_M) :=
  qbd (0 : Int32) (fun v1 : Int32 =>
  qbd (0 : Int32) (fun v4 : Int32 =>
  f_X0_greatestAfter_b6_loop x1 x2 x3 v1 v4 h))
set_option maxRecDepth 20000 in
theorem c_X0_greatestAfter {l : Launch} {g : qa_G} {d : Nat} (x1 : Int32) (x2 : Int32) (x3 : Int32) (h : qa_M) {c : Int32} {h1 : qa_M} (E : m_X0_greatestAfter x1 x2 x3 h = some (c, h1)) : qt_Met l g (yX0_greatestAfter, cX0_greatestAfter, 6, (some .int)) (d + 1) 0 [.ref (g.1 + 40), .int x1, .int x2, .int x3] h (some (.int c)) h1 := by
  refine qt_Met.of (plainFor_of_name (by decide)) (Nat.le_of_ble_eq_true rfl) ?_
  have G : qg_i (some (.int c)) h1 ((c, h1)) := ⟨rfl, rfl⟩
  unfold m_X0_greatestAfter at E
  refine qt_iconst dX0_greatestAfter_0 ci_0 ?_
  refine qt_istore (fun v1 => [(4, .int v1), (0, .ref (g.1 + 40)), (1, .int x1), (2, .int x2), (3, .int x3)]) dX0_greatestAfter_1 (Nat.le_of_ble_eq_true rfl) (fun _ => rfl) E (fun v1 E => ?_)
  refine qt_iconst dX0_greatestAfter_3 ci_0 ?_
  refine qt_istore (fun v4 => [(5, .int v4), (4, .int v1), (0, .ref (g.1 + 40)), (1, .int x1), (2, .int x2), (3, .int x3)]) dX0_greatestAfter_4 (Nat.le_of_ble_eq_true rfl) (fun _ => rfl) E (fun v4 E => ?_)
  exact qt_sub _ [2, 3, 4, 5, 1, 0] rfl ((s_X0_greatestAfter_b6_loop x1 x2 x3 v1 v4 h E G))
