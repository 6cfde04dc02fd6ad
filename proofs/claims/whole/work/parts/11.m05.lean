noncomputable def f_X12_sorted_b66 (x2 : Int32) (h : qa_M) : Option qa_M :=
  qck (4 : Int32) 5 (
  qck (h.1 132 (4 : Int32).toNatClampNeg) 4 (
  qbd (qw_I h 138 (h.1 132 (4 : Int32).toNatClampNeg).toNatClampNeg x2) (fun h77 : qa_M =>
  qck (4 : Int32) 5 (
  qck (4 : Int32) 5 (
  qbd (qw_I h77 132 (4 : Int32).toNatClampNeg ((h77.1 132 (4 : Int32).toNatClampNeg) + (1 : Int32))) (fun h87 : qa_M =>
  some h87))))))
set_option maxRecDepth 20000 in
theorem s_X12_sorted_b66 {l : Launch} {g : qa_G} {d : Nat} {rz : Option Value} {hz : qa_M} (x2 : Int32) (h : qa_M) {z : qa_M} (E : f_X12_sorted_b66 x2 h = some z) (G : (qg_v rz hz) z) : qt_At l g (yX12_sorted, cX12_sorted, 5, none) (d + 4) 0 0 66 [(0, .ref (g.1 + 119)), (2, .int x2)] [] h rz hz := by
  unfold f_X12_sorted_b66 at E
  refine qt_aload_n 0 dX12_sorted_66 rfl rfl ?_
  refine qt_getS 138 (wl_119 h) fe_RX12_64 rfl dX12_sorted_67 ?_
  refine qt_aload_n 0 dX12_sorted_70 rfl rfl ?_
  refine qt_getS 132 (wl_119 h) fe_RX12_46 rfl dX12_sorted_71 ?_
  refine qt_iconst dX12_sorted_74 ci_4 ?_
  refine qt_iald (wl_132 h) dX12_sorted_75 E (fun E => ?_)
  refine qt_iload_n 1 dX12_sorted_76 rfl rfl ?_
  refine qt_iast (wl_138 h) dX12_sorted_77 E (fun h77 E => ?_)
  refine qt_aload_n 0 dX12_sorted_78 rfl rfl ?_
  refine qt_getS 132 (wl_119 h77) fe_RX12_46 rfl dX12_sorted_79 ?_
  refine qt_iconst dX12_sorted_82 ci_4 ?_
  refine qt_dup2_11 dX12_sorted_83 rfl rfl ?_
  refine qt_iald (wl_132 h77) dX12_sorted_84 E (fun E => ?_)
  refine qt_iconst dX12_sorted_85 ci_1 ?_
  refine qt_iadd dX12_sorted_86 ?_
  refine qt_iast (wl_132 h77) dX12_sorted_87 E (fun h87 E => ?_)
  exact qt_vreturn rfl (Nat.le_of_ble_eq_true rfl) dX12_sorted_88 E G
noncomputable def f_X12_sorted_b48 (x1 : Int32) (x2 : Int32) (x3 : Int32) (h : qa_M) : Option qa_M :=
  if (h.1 119 22) = 0 then (
   if x3 ≤ (4 : Int32) then (
    f_X12_sorted_b66 x2 h)
   else (
    qbv (m_X12_fails (5 : Int32) x1 h) (fun h63 : qa_M =>
    f_X12_sorted_b66 x2 h63)))
  else (
   f_X12_sorted_b66 x2 h)
set_option maxRecDepth 20000 in
theorem s_X12_sorted_b48 {l : Launch} {g : qa_G} {d : Nat} {rz : Option Value} {hz : qa_M} (x1 : Int32) (x2 : Int32) (x3 : Int32) (h : qa_M) {z : qa_M} (E : f_X12_sorted_b48 x1 x2 x3 h = some z) (G : (qg_v rz hz) z) : qt_At l g (yX12_sorted, cX12_sorted, 5, none) (d + 4) 0 0 48 [(0, .ref (g.1 + 119)), (1, .int x1), (2, .int x2), (3, .int x3)] [] h rz hz := by
  unfold f_X12_sorted_b48 at E
  refine qt_aload_n 0 dX12_sorted_48 rfl rfl ?_
  refine qt_getI (wl_119 h) fe_RX12_240 rfl dX12_sorted_49 ?_
  refine qt_if_ne 66 dX12_sorted_52 (by decide) E (fun E => ?_) (fun E => ?_)
  · exact qt_sub _ [0, 2] rfl ((s_X12_sorted_b66 x2 h E G))
  · refine qt_iload_n 3 dX12_sorted_55 rfl rfl ?_
    refine qt_iconst dX12_sorted_56 ci_4 ?_
    refine qt_icmp_le 66 dX12_sorted_57 (by decide) E (fun E => ?_) (fun E => ?_)
    · exact qt_sub _ [0, 2] rfl ((s_X12_sorted_b66 x2 h E G))
    · refine qt_aload_n 0 dX12_sorted_60 rfl rfl ?_
      refine qt_iconst dX12_sorted_61 ci_5 ?_
      refine qt_iload_n 1 dX12_sorted_62 rfl rfl ?_
      obtain ⟨h63, e63, E⟩ := qbv_el E
      refine qt_callVv (b2 := 0) [.int (5 : Int32), .int x1] (c_X12_fails (5 : Int32) x1 h e63) cv_RX12_279 (wl_119 h) rfl rfl rfl (Nat.le_of_ble_eq_true rfl) (Nat.le_of_ble_eq_true rfl) dX12_sorted_63 ?_
      exact qt_sub _ [0, 2] rfl ((s_X12_sorted_b66 x2 h63 E G))
noncomputable def f_X12_sorted_b21 (x1 : Int32) (x2 : Int32) (x3 : Int32) (x4 : Int32) (h : qa_M) : Option ((Int32 × Int32 × Int32 × Int32 × qa_M) ⊕ qa_M) :=
  qck (4 : Int32) 5 (
  if (h.1 132 (4 : Int32).toNatClampNeg) ≤ x4 then (
   qup (f_X12_sorted_b48 x1 x2 x3 h))
  else (
   qck x4 4 (
   qbd (x3 + (h.1 138 x4.toNatClampNeg)) (fun v41 : Int32 =>
   qbd (x4 + (1 : Int32)) (fun v42 : Int32 =>
   some (.inl (x1, x2, v41, v42, h)))))))
set_option maxRecDepth 20000 in
theorem s_X12_sorted_b21 {l : Launch} {g : qa_G} {d : Nat} {rz : Option Value} {hz : qa_M} (x1 : Int32) (x2 : Int32) (x3 : Int32) (x4 : Int32) (h : qa_M) {z : ((Int32 × Int32 × Int32 × Int32 × qa_M) ⊕ qa_M)} (E : f_X12_sorted_b21 x1 x2 x3 x4 h = some z) (G : (Sum.elim (fun (sz : Int32 × Int32 × Int32 × Int32 × qa_M) => qt_At l g (yX12_sorted, cX12_sorted, 5, none) (d + 4) 0 0 21 [(0, .ref (g.1 + 119)), (1, .int sz.1), (2, .int sz.2.1), (3, .int sz.2.2.1), (4, .int sz.2.2.2.1)] [] sz.2.2.2.2 rz hz) (qg_v rz hz)) z) : qt_At l g (yX12_sorted, cX12_sorted, 5, none) (d + 4) 0 0 21 [(0, .ref (g.1 + 119)), (1, .int x1), (2, .int x2), (3, .int x3), (4, .int x4)] [] h rz hz := by
  unfold f_X12_sorted_b21 at E
  refine qt_iload 4 dX12_sorted_21 rfl ?_
  refine qt_aload_n 0 dX12_sorted_23 rfl rfl ?_
  refine qt_getS 132 (wl_119 h) fe_RX12_46 rfl dX12_sorted_24 ?_
  refine qt_iconst dX12_sorted_27 ci_4 ?_
  refine qt_iald (wl_132 h) dX12_sorted_28 E (fun E => ?_)
  refine qt_icmp_ge 48 dX12_sorted_29 (by decide) E (fun E => ?_) (fun E => ?_)
  · obtain ⟨z0_, E, G⟩ := qup_g E G
    exact qt_sub _ [0, 1, 2, 3] rfl ((s_X12_sorted_b48 x1 x2 x3 h E G))
  · refine qt_iload_n 3 dX12_sorted_32 rfl rfl ?_
    refine qt_aload_n 0 dX12_sorted_33 rfl rfl ?_
    refine qt_getS 138 (wl_119 h) fe_RX12_64 rfl dX12_sorted_34 ?_
    refine qt_iload 4 dX12_sorted_37 rfl ?_
    refine qt_iald (wl_138 h) dX12_sorted_39 E (fun E => ?_)
    refine qt_iadd dX12_sorted_40 ?_
    refine qt_istore_n (fun v41 => [(3, .int v41), (0, .ref (g.1 + 119)), (1, .int x1), (2, .int x2), (4, .int x4)]) dX12_sorted_41 rfl (Nat.le_of_ble_eq_true rfl) (fun _ => rfl) E (fun v41 E => ?_)
    refine qt_iinc 4 (fun v42 => [(4, .int v42), (3, .int v41), (0, .ref (g.1 + 119)), (1, .int x1), (2, .int x2)]) dX12_sorted_42 rfl ci_1 (Nat.le_of_ble_eq_true rfl) (fun _ => rfl) E (fun v42 E => ?_)
    refine qt_goto 21 dX12_sorted_45 (by decide) ?_
    cases E
    exact qt_sub _ [2, 3, 4, 1, 0] rfl (G)
noncomputable def f_X12_sorted_b21_loop (x1 : Int32) (x2 : Int32) (x3 : Int32) (x4 : Int32) (h : qa_M) : Option qa_M := qlp (fun sz : Int32 × Int32 × Int32 × Int32 × qa_M => f_X12_sorted_b21 sz.1 sz.2.1 sz.2.2.1 sz.2.2.2.1 sz.2.2.2.2) (x1, x2, x3, x4, h)
theorem s_X12_sorted_b21_loop {l : Launch} {g : qa_G} {d : Nat} {rz : Option Value} {hz : qa_M} (x1 : Int32) (x2 : Int32) (x3 : Int32) (x4 : Int32) (h : qa_M) {z : qa_M} (E : f_X12_sorted_b21_loop x1 x2 x3 x4 h = some z) (G : (qg_v rz hz) z) : qt_At l g (yX12_sorted, cX12_sorted, 5, none) (d + 4) 0 0 21 [(0, .ref (g.1 + 119)), (1, .int x1), (2, .int x2), (3, .int x3), (4, .int x4)] [] h rz hz :=
  qlp_ind (fun sz : Int32 × Int32 × Int32 × Int32 × qa_M => qt_At l g (yX12_sorted, cX12_sorted, 5, none) (d + 4) 0 0 21 [(0, .ref (g.1 + 119)), (1, .int sz.1), (2, .int sz.2.1), (3, .int sz.2.2.1), (4, .int sz.2.2.2.1)] [] sz.2.2.2.2 rz hz) (fun sz E => s_X12_sorted_b21 sz.1 sz.2.1 sz.2.2.1 sz.2.2.2.1 sz.2.2.2.2 E G) (fun sz sz2 E ih => s_X12_sorted_b21 sz.1 sz.2.1 sz.2.2.1 sz.2.2.2.1 sz.2.2.2.2 E ih) (x1, x2, x3, x4, h) E
noncomputable def m_X12_sorted (h : qa_M) : Option qa_M :=
  qbv (m_X12_blanks h) (fun h1 : qa_M =>
  qbd (h1.1 119 21) (fun v8 : Int32 =>
  qbn (m_X12_amount (0 : Int32) (4 : Int32) h1) (fun (c12 : Int32) (h12 : qa_M) =>
  qbd c12 (fun v15 : Int32 =>
  qbd v15 (fun v17 : Int32 =>
  qbd (0 : Int32) (fun v19 : Int32 =>
  f_X12_sorted_b21_loop v8 v15 v17 v19 h12))))))
set_option maxRecDepth 20000 in
theorem c_X12_sorted {l : Launch} {g : qa_G} {d : Nat} (h : qa_M) {h1 : qa_M} (E : m_X12_sorted h = some h1) : qt_Met l g (yX12_sorted, cX12_sorted, 5, none) (d + 4) 0 [.ref (g.1 + 119)] h none h1 := by
  refine qt_Met.of (plainFor_of_name (by decide)) (Nat.le_of_ble_eq_true rfl) ?_
  have G : qg_v none h1 (h1) := ⟨rfl, rfl⟩
  unfold m_X12_sorted at E
  refine qt_aload_n 0 dX12_sorted_0 rfl rfl ?_
  obtain ⟨h1, e1, E⟩ := qbv_el E
  refine qt_callVv (b2 := 0) [] (c_X12_blanks h e1) cv_RX12_263 (wl_119 h) rfl rfl rfl (Nat.le_of_ble_eq_true rfl) (Nat.le_of_ble_eq_true rfl) dX12_sorted_1 ?_
  refine qt_aload_n 0 dX12_sorted_4 rfl rfl ?_
  refine qt_getI (wl_119 h1) fe_RX12_243 rfl dX12_sorted_5 ?_
  refine qt_istore_n (fun v8 => [(1, .int v8), (0, .ref (g.1 + 119))]) dX12_sorted_8 rfl (Nat.le_of_ble_eq_true rfl) (fun _ => rfl) E (fun v8 E => ?_)
  refine qt_aload_n 1 dX12_sorted_9 rfl rfl ?_
  refine qt_iconst dX12_sorted_10 ci_0 ?_
  refine qt_iconst dX12_sorted_11 ci_4 ?_
  obtain ⟨c12, h12, e12, E⟩ := qbn_el E
  refine qt_callVi (b2 := 0) [.int (0 : Int32), .int (4 : Int32)] (c_X12_amount (0 : Int32) (4 : Int32) h1 e12) cv_RX12_336 (wl_119 h1) rfl rfl rfl (Nat.le_of_ble_eq_true rfl) (Nat.le_of_ble_eq_true rfl) dX12_sorted_12 ?_
  refine qt_istore_n (fun v15 => [(2, .int v15), (1, .int v8), (0, .ref (g.1 + 119))]) dX12_sorted_15 rfl (Nat.le_of_ble_eq_true rfl) (fun _ => rfl) E (fun v15 E => ?_)
  refine qt_iload_n 0 dX12_sorted_16 rfl rfl ?_
  refine qt_istore_n (fun v17 => [(3, .int v17), (2, .int v15), (1, .int v8), (0, .ref (g.1 + 119))]) dX12_sorted_17 rfl (Nat.le_of_ble_eq_true rfl) (fun _ => rfl) E (fun v17 E => ?_)
  refine qt_iconst dX12_sorted_18 ci_0 ?_
  refine qt_istore (fun v19 => [(4, .int v19), (3, .int v17), (2, .int v15), (1, .int v8), (0, .ref (g.1 + 119))]) dX12_sorted_19 (Nat.le_of_ble_eq_true rfl) (fun _ => rfl) E (fun v19 E => ?_)
  exact qt_sub _ [4, 3, 2, 1, 0] rfl ((s_X12_sorted_b21_loop v8 v15 v17 v19 h12 E G))
noncomputable def f_X12_landClause_b33 (x1 : Int32) (x2 : Int32) (x3 : Int32) (h : qa_M) : Option qa_M :=
  if x3 = (5 : Int32) then (
   qbv (m_X12_fails (0 : Int32) x2 h) (fun h41 : qa_M =>
   some h41))
  else (
   qbn (m_X12_isFull x3 x1 h) (fun (c48 : Int32) (h48 : qa_M) =>
   if c48 = 0 then (
    qbd (qw_I h48 119 21 ((h48.1 119 21) + (4 : Int32))) (fun h68 : qa_M =>
    if x3 = 0 then (
     qbn (m_X12_amount (2 : Int32) (6 : Int32) h68) (fun (c84 : Int32) (h84 : qa_M) =>
     qck (0 : Int32) 5 (
     qbd (qw_I h84 132 (0 : Int32).toNatClampNeg c84) (fun h87 : qa_M =>
     qbn (m_X12_amount (2 : Int32) (6 : Int32) h87) (fun (c97 : Int32) (h97 : qa_M) =>
     qck (1 : Int32) 5 (
     qbd (qw_I h97 132 (1 : Int32).toNatClampNeg c97) (fun h100 : qa_M =>
     some h100)))))))
    else (
     if x3 = (1 : Int32) then (
      qbv (m_X12_woods h68) (fun h110 : qa_M =>
      some h110))
     else (
      if x3 = (2 : Int32) then (
       qbv (m_X12_hill h68) (fun h122 : qa_M =>
       some h122))
      else (
       if x3 = (3 : Int32) then (
        qbv (m_X12_road h68) (fun h134 : qa_M =>
        some h134))
       else (
        qbv (m_X12_sorted h68) (fun h141 : qa_M =>
        some h141)))))))
   else (
    qbv (m_X12_fails (4 : Int32) x2 h48) (fun h57 : qa_M =>
    some h57))))
set_option maxRecDepth 20000 in
theorem s_X12_landClause_b33 {l : Launch} {g : qa_G} {d : Nat} {rz : Option Value} {hz : qa_M} (x1 : Int32) (x2 : Int32) (x3 : Int32) (h : qa_M) {z : qa_M} (E : f_X12_landClause_b33 x1 x2 x3 h = some z) (G : (qg_v rz hz) z) : qt_At l g (yX12_landClause, cX12_landClause, 4, none) (d + 6) 0 0 33 [(0, .ref (g.1 + 119)), (1, .int x1), (2, .int x2), (3, .int x3)] [] h rz hz := by
  unfold f_X12_landClause_b33 at E
  refine qt_iload_n 3 dX12_landClause_33 rfl rfl ?_
  refine qt_iconst dX12_landClause_34 ci_5 ?_
  refine qt_icmp_ne 45 dX12_landClause_35 (by decide) E (fun E => ?_) (fun E => ?_)
  · refine qt_aload_n 0 dX12_landClause_45 rfl rfl ?_
    refine qt_iload_n 3 dX12_landClause_46 rfl rfl ?_
    refine qt_iload_n 1 dX12_landClause_47 rfl rfl ?_
    obtain ⟨c48, h48, e48, E⟩ := qbn_el E
    refine qt_callVi (b2 := 0) [.int x3, .int x1] (c_X12_isFull x3 x1 h e48) cv_RX12_351 (wl_119 h) rfl rfl rfl (Nat.le_of_ble_eq_true rfl) (Nat.le_of_ble_eq_true rfl) dX12_landClause_48 ?_
    refine qt_if_eq 61 dX12_landClause_51 (by decide) E (fun E => ?_) (fun E => ?_)
    · refine qt_aload_n 0 dX12_landClause_61 rfl rfl ?_
      refine qt_dup dX12_landClause_62 rfl ?_
      refine qt_getI (wl_119 h48) fe_RX12_243 rfl dX12_landClause_63 ?_
      refine qt_iconst dX12_landClause_66 ci_4 ?_
      refine qt_iadd dX12_landClause_67 ?_
      refine qt_putI (wl_119 h48) fd_RX12_243 rfl rfl rfl dX12_landClause_68 E (fun h68 E => ?_)
      refine qt_iload_n 3 dX12_landClause_71 rfl rfl ?_
      refine qt_if_ne 104 dX12_landClause_72 (by decide) E (fun E => ?_) (fun E => ?_)
      · refine qt_iload_n 3 dX12_landClause_104 rfl rfl ?_
        refine qt_iconst dX12_landClause_105 ci_1 ?_
        refine qt_icmp_ne 116 dX12_landClause_106 (by decide) E (fun E => ?_) (fun E => ?_)
        · refine qt_iload_n 3 dX12_landClause_116 rfl rfl ?_
          refine qt_iconst dX12_landClause_117 ci_2 ?_
          refine qt_icmp_ne 128 dX12_landClause_118 (by decide) E (fun E => ?_) (fun E => ?_)
          · refine qt_iload_n 3 dX12_landClause_128 rfl rfl ?_
            refine qt_iconst dX12_landClause_129 ci_3 ?_
            refine qt_icmp_ne 140 dX12_landClause_130 (by decide) E (fun E => ?_) (fun E => ?_)
            · refine qt_aload_n 0 dX12_landClause_140 rfl rfl ?_
              obtain ⟨h141, e141, E⟩ := qbv_el E
              refine qt_callVv (b2 := 0) [] (c_X12_sorted h68 e141) cv_RX12_360 (wl_119 h68) rfl rfl rfl (Nat.le_of_ble_eq_true rfl) (Nat.le_of_ble_eq_true rfl) dX12_landClause_141 ?_
              exact qt_vreturn rfl (Nat.le_of_ble_eq_true rfl) dX12_landClause_144 E G
            · refine qt_aload_n 0 dX12_landClause_133 rfl rfl ?_
              obtain ⟨h134, e134, E⟩ := qbv_el E
              refine qt_callVv (b2 := 0) [] (c_X12_road h68 e134) cv_RX12_358 (wl_119 h68) rfl rfl rfl (Nat.le_of_ble_eq_true rfl) (Nat.le_of_ble_eq_true rfl) dX12_landClause_134 ?_
              refine qt_goto 144 dX12_landClause_137 (by decide) ?_
              exact qt_vreturn rfl (Nat.le_of_ble_eq_true rfl) dX12_landClause_144 E G
          · refine qt_aload_n 0 dX12_landClause_121 rfl rfl ?_
            obtain ⟨h122, e122, E⟩ := qbv_el E
            refine qt_callVv (b2 := 0) [] (c_X12_hill h68 e122) cv_RX12_356 (wl_119 h68) rfl rfl rfl (Nat.le_of_ble_eq_true rfl) (Nat.le_of_ble_eq_true rfl) dX12_landClause_122 ?_
            refine qt_goto 144 dX12_landClause_125 (by decide) ?_
            exact qt_vreturn rfl (Nat.le_of_ble_eq_true rfl) dX12_landClause_144 E G
        · refine qt_aload_n 0 dX12_landClause_109 rfl rfl ?_
          obtain ⟨h110, e110, E⟩ := qbv_el E
          refine qt_callVv (b2 := 0) [] (c_X12_woods h68 e110) cv_RX12_354 (wl_119 h68) rfl rfl rfl (Nat.le_of_ble_eq_true rfl) (Nat.le_of_ble_eq_true rfl) dX12_landClause_110 ?_
          refine qt_goto 144 dX12_landClause_113 (by decide) ?_
          exact qt_vreturn rfl (Nat.le_of_ble_eq_true rfl) dX12_landClause_144 E G
      · refine qt_aload_n 0 dX12_landClause_75 rfl rfl ?_
        refine qt_getS 132 (wl_119 h68) fe_RX12_46 rfl dX12_landClause_76 ?_
        refine qt_iconst dX12_landClause_79 ci_0 ?_
        refine qt_aload_n 0 dX12_landClause_80 rfl rfl ?_
        refine qt_iconst dX12_landClause_81 ci_2 ?_
        refine qt_bipush dX12_landClause_82 cb_6 ?_
        obtain ⟨c84, h84, e84, E⟩ := qbn_el E
        refine qt_callVi (b2 := 0) [.int (2 : Int32), .int (6 : Int32)] (c_X12_amount (2 : Int32) (6 : Int32) h68 e84) cv_RX12_336 (wl_119 h68) rfl rfl rfl (Nat.le_of_ble_eq_true rfl) (Nat.le_of_ble_eq_true rfl) dX12_landClause_84 ?_
        refine qt_iast (wl_132 h84) dX12_landClause_87 E (fun h87 E => ?_)
        refine qt_aload_n 0 dX12_landClause_88 rfl rfl ?_
        refine qt_getS 132 (wl_119 h87) fe_RX12_46 rfl dX12_landClause_89 ?_
        refine qt_iconst dX12_landClause_92 ci_1 ?_
        refine qt_aload_n 0 dX12_landClause_93 rfl rfl ?_
        refine qt_iconst dX12_landClause_94 ci_2 ?_
        refine qt_bipush dX12_landClause_95 cb_6 ?_
        obtain ⟨c97, h97, e97, E⟩ := qbn_el E
        refine qt_callVi (b2 := 0) [.int (2 : Int32), .int (6 : Int32)] (c_X12_amount (2 : Int32) (6 : Int32) h87 e97) cv_RX12_336 (wl_119 h87) rfl rfl rfl (Nat.le_of_ble_eq_true rfl) (Nat.le_of_ble_eq_true rfl) dX12_landClause_97 ?_
        refine qt_iast (wl_132 h97) dX12_landClause_100 E (fun h100 E => ?_)
        refine qt_goto 144 dX12_landClause_101 (by decide) ?_
        exact qt_vreturn rfl (Nat.le_of_ble_eq_true rfl) dX12_landClause_144 E G
    · refine qt_aload_n 0 dX12_landClause_54 rfl rfl ?_
      refine qt_iconst dX12_landClause_55 ci_4 ?_
      refine qt_iload_n 2 dX12_landClause_56 rfl rfl ?_
      obtain ⟨h57, e57, E⟩ := qbv_el E
      refine qt_callVv (b2 := 0) [.int (4 : Int32), .int x2] (c_X12_fails (4 : Int32) x2 h48 e57) cv_RX12_279 (wl_119 h48) rfl rfl rfl (Nat.le_of_ble_eq_true rfl) (Nat.le_of_ble_eq_true rfl) dX12_landClause_57 ?_
      exact qt_vreturn rfl (Nat.le_of_ble_eq_true rfl) dX12_landClause_60 E G
  · refine qt_aload_n 0 dX12_landClause_38 rfl rfl ?_
    refine qt_iconst dX12_landClause_39 ci_0 ?_
    refine qt_iload_n 2 dX12_landClause_40 rfl rfl ?_
    obtain ⟨h41, e41, E⟩ := qbv_el E
    refine qt_callVv (b2 := 0) [.int (0 : Int32), .int x2] (c_X12_fails (0 : Int32) x2 h e41) cv_RX12_279 (wl_119 h) rfl rfl rfl (Nat.le_of_ble_eq_true rfl) (Nat.le_of_ble_eq_true rfl) dX12_landClause_41 ?_
    exact qt_vreturn rfl (Nat.le_of_ble_eq_true rfl) dX12_landClause_44 E G
noncomputable def f_X12_landClause_b11 (x1 : Int32) (x2 : Int32) (x3 : Int32) (h : qa_M) : Option ((Int32 × Int32 × Int32 × qa_M) ⊕ qa_M) :=
  if (5 : Int32) ≤ x3 then (
   qup (f_X12_landClause_b33 x1 x2 x3 h))
  else (
   qbn (m_X12_landWord x3 h) (fun (c18 : Nat) (h18 : qa_M) =>
   qpr (c18 < 19) (
   qbn (m_X12_stood c18 h18) (fun (c21 : Int32) (h21 : qa_M) =>
   if c21 = 0 then (
    qbd (x3 + (1 : Int32)) (fun v27 : Int32 =>
    some (.inl (x1, x2, v27, h21))))
   else (
    qup (f_X12_landClause_b33 x1 x2 x3 h21))))))
set_option maxRecDepth 20000 in
theorem s_X12_landClause_b11 {l : Launch} {g : qa_G} {d : Nat} {rz : Option Value} {hz : qa_M} (x1 : Int32) (x2 : Int32) (x3 : Int32) (h : qa_M) {z : ((Int32 × Int32 × Int32 × qa_M) ⊕ qa_M)} (E : f_X12_landClause_b11 x1 x2 x3 h = some z) (G : (Sum.elim (fun (sz : Int32 × Int32 × Int32 × qa_M) => qt_At l g (yX12_landClause, cX12_landClause, 4, none) (d + 6) 0 0 11 [(0, .ref (g.1 + 119)), (1, .int sz.1), (2, .int sz.2.1), (3, .int sz.2.2.1)] [] sz.2.2.2 rz hz) (qg_v rz hz)) z) : qt_At l g (yX12_landClause, cX12_landClause, 4, none) (d + 6) 0 0 11 [(0, .ref (g.1 + 119)), (1, .int x1), (2, .int x2), (3, .int x3)] [] h rz hz := by
  unfold f_X12_landClause_b11 at E
  refine qt_iload_n 3 dX12_landClause_11 rfl rfl ?_
  refine qt_iconst dX12_landClause_12 ci_5 ?_
  refine qt_icmp_ge 33 dX12_landClause_13 (by decide) E (fun E => ?_) (fun E => ?_)
  · obtain ⟨z0_, E, G⟩ := qup_g E G
    exact qt_sub _ [0, 1, 2, 3] rfl ((s_X12_landClause_b33 x1 x2 x3 h E G))
  · refine qt_aload_n 0 dX12_landClause_16 rfl rfl ?_
    refine qt_iload_n 3 dX12_landClause_17 rfl rfl ?_
    obtain ⟨c18, h18, e18, E⟩ := qbn_el E
    refine qt_callSs (b2 := 0) [.int x3] (c_X12_landWord x3 h e18) cv_RX12_348 rfl (Nat.le_of_ble_eq_true rfl) (Nat.le_of_ble_eq_true rfl) dX12_landClause_18 ?_
    obtain ⟨p18, E⟩ := qpr_el E
    obtain ⟨c21, h21, e21, E⟩ := qbn_el E
    refine qt_callVi (b2 := 0) [.ref (g.2.2.2.1 c18)] (c_X12_stood c18 h18 p18 e21) cv_RX12_266 (wl_119 h18) rfl rfl rfl (Nat.le_of_ble_eq_true rfl) (Nat.le_of_ble_eq_true rfl) dX12_landClause_21 ?_
    refine qt_if_ne 33 dX12_landClause_24 (by decide) E (fun E => ?_) (fun E => ?_)
    · obtain ⟨z0_, E, G⟩ := qup_g E G
      exact qt_sub _ [0, 1, 2, 3] rfl ((s_X12_landClause_b33 x1 x2 x3 h21 E G))
    · refine qt_iinc 3 (fun v27 => [(3, .int v27), (0, .ref (g.1 + 119)), (1, .int x1), (2, .int x2)]) dX12_landClause_27 rfl ci_1 (Nat.le_of_ble_eq_true rfl) (fun _ => rfl) E (fun v27 E => ?_)
      refine qt_goto 11 dX12_landClause_30 (by decide) ?_
      cases E
      exact qt_sub _ [1, 2, 3, 0] rfl (G)
noncomputable def f_X12_landClause_b11_loop (x1 : Int32) (x2 : Int32) (x3 : Int32) (h : qa_M) : Option qa_M := qlp (fun sz : Int32 × Int32 × Int32 × qa_M => f_X12_landClause_b11 sz.1 sz.2.1 sz.2.2.1 sz.2.2.2) (x1, x2, x3, h)
theorem s_X12_landClause_b11_loop {l : Launch} {g : qa_G} {d : Nat} {rz : Option Value} {hz : qa_M} (x1 : Int32) (x2 : Int32) (x3 : Int32) (h : qa_M) {z : qa_M} (E : f_X12_landClause_b11_loop x1 x2 x3 h = some z) (G : (qg_v rz hz) z) : qt_At l g (yX12_landClause, cX12_landClause, 4, none) (d + 6) 0 0 11 [(0, .ref (g.1 + 119)), (1, .int x1), (2, .int x2), (3, .int x3)] [] h rz hz :=
  qlp_ind (fun sz : Int32 × Int32 × Int32 × qa_M => qt_At l g (yX12_landClause, cX12_landClause, 4, none) (d + 6) 0 0 11 [(0, .ref (g.1 + 119)), (1, .int sz.1), (2, .int sz.2.1), (3, .int sz.2.2.1)] [] sz.2.2.2 rz hz) (fun sz E => s_X12_landClause_b11 sz.1 sz.2.1 sz.2.2.1 sz.2.2.2 E G) (fun sz sz2 E ih => s_X12_landClause_b11 sz.1 sz.2.1 sz.2.2.1 sz.2.2.2 E ih) (x1, x2, x3, h) E
noncomputable def m_X12_landClause (x1 : Int32) (h : qa_M) : Option qa_M :=
  qbv (m_X12_blanks h) (fun h1 : qa_M =>
  qbd (h1.1 119 21) (fun v8 : Int32 =>
  qbd (0 : Int32) (fun v10 : Int32 =>
  f_X12_landClause_b11_loop x1 v8 v10 h1)))
set_option maxRecDepth 20000 in
theorem c_X12_landClause {l : Launch} {g : qa_G} {d : Nat} (x1 : Int32) (h : qa_M) {h1 : qa_M} (E : m_X12_landClause x1 h = some h1) : qt_Met l g (yX12_landClause, cX12_landClause, 4, none) (d + 6) 0 [.ref (g.1 + 119), .int x1] h none h1 := by
  refine qt_Met.of (plainFor_of_name (by decide)) (Nat.le_of_ble_eq_true rfl) ?_
  have G : qg_v none h1 (h1) := ⟨rfl, rfl⟩
  unfold m_X12_landClause at E
  refine qt_aload_n 0 dX12_landClause_0 rfl rfl ?_
  obtain ⟨h1, e1, E⟩ := qbv_el E
  refine qt_callVv (b2 := 0) [] (c_X12_blanks h e1) cv_RX12_263 (wl_119 h) rfl rfl rfl (Nat.le_of_ble_eq_true rfl) (Nat.le_of_ble_eq_true rfl) dX12_landClause_1 ?_
  refine qt_aload_n 0 dX12_landClause_4 rfl rfl ?_
  refine qt_getI (wl_119 h1) fe_RX12_243 rfl dX12_landClause_5 ?_
  refine qt_istore_n (fun v8 => [(2, .int v8), (0, .ref (g.1 + 119)), (1, .int x1)]) dX12_landClause_8 rfl (Nat.le_of_ble_eq_true rfl) (fun _ => rfl) E (fun v8 E => ?_)
  refine qt_iconst dX12_landClause_9 ci_0 ?_
  refine qt_istore_n (fun v10 => [(3, .int v10), (2, .int v8), (0, .ref (g.1 + 119)), (1, .int x1)]) dX12_landClause_10 rfl (Nat.le_of_ble_eq_true rfl) (fun _ => rfl) E (fun v10 E => ?_)
  exact qt_sub _ [2, 3, 1, 0] rfl ((s_X12_landClause_b11_loop x1 v8 v10 h1 E G))
noncomputable def f_X12_goesOn_b63 (s0 : Int32) (h : qa_M) : Option (Int32 × qa_M) :=
  qbd s0 (fun v63 : Int32 =>
  qbd (qw_I h 119 21 ((h.1 119 21) + (1 : Int32))) (fun h71 : qa_M =>
  qpr (v63 = 0 ∨ v63 = 1) (
  some (v63, h71))))
set_option maxRecDepth 20000 in
theorem s_X12_goesOn_b63 {l : Launch} {g : qa_G} {d : Nat} {rz : Option Value} {hz : qa_M} (s0 : Int32) (h : qa_M) {z : (Int32 × qa_M)} (E : f_X12_goesOn_b63 s0 h = some z) (G : (qg_i rz hz) z) : qt_At l g (yX12_goesOn, cX12_goesOn, 2, (some .boolean)) (d + 2) 0 0 63 [(0, .ref (g.1 + 119))] [.int s0] h rz hz := by
  unfold f_X12_goesOn_b63 at E
  refine qt_istore_n (fun v63 => [(1, .int v63), (0, .ref (g.1 + 119))]) dX12_goesOn_63 rfl (Nat.le_of_ble_eq_true rfl) (fun _ => rfl) E (fun v63 E => ?_)
  refine qt_aload_n 1 dX12_goesOn_64 rfl rfl ?_
  refine qt_dup dX12_goesOn_65 rfl ?_
  refine qt_getI (wl_119 h) fe_RX12_243 rfl dX12_goesOn_66 ?_
  refine qt_iconst dX12_goesOn_69 ci_1 ?_
  refine qt_iadd dX12_goesOn_70 ?_
  refine qt_putI (wl_119 h) fd_RX12_243 rfl rfl rfl dX12_goesOn_71 E (fun h71 E => ?_)
  refine qt_iload_n 0 dX12_goesOn_74 rfl rfl ?_
  obtain ⟨z75, E⟩ := qpr_el E
  exact qt_zreturn rfl z75 (Nat.le_of_ble_eq_true rfl) dX12_goesOn_75 E G
noncomputable def f_X12_goesOn_b62 (h : qa_M) : Option (Int32 × qa_M) :=
  f_X12_goesOn_b63 (0 : Int32) h
set_option maxRecDepth 20000 in
theorem s_X12_goesOn_b62 {l : Launch} {g : qa_G} {d : Nat} {rz : Option Value} {hz : qa_M} (h : qa_M) {z : (Int32 × qa_M)} (E : f_X12_goesOn_b62 h = some z) (G : (qg_i rz hz) z) : qt_At l g (yX12_goesOn, cX12_goesOn, 2, (some .boolean)) (d + 2) 0 0 62 [(0, .ref (g.1 + 119))] [] h rz hz := by
  unfold f_X12_goesOn_b62 at E
  refine qt_iconst dX12_goesOn_62 ci_0 ?_
  exact qt_sub _ [0] rfl ((s_X12_goesOn_b63 (0 : Int32) h E G))
noncomputable def f_X12_goesOn_b40 (h : qa_M) : Option (Int32 × qa_M) :=
  if (h.1 119 22) = 0 then (
   if (h.1 119 20) ≤ (h.1 119 21) then (
    f_X12_goesOn_b62 h)
   else (
    f_X12_goesOn_b63 (1 : Int32) h))
  else (
   f_X12_goesOn_b62 h)
set_option maxRecDepth 20000 in
theorem s_X12_goesOn_b40 {l : Launch} {g : qa_G} {d : Nat} {rz : Option Value} {hz : qa_M} (h : qa_M) {z : (Int32 × qa_M)} (E : f_X12_goesOn_b40 h = some z) (G : (qg_i rz hz) z) : qt_At l g (yX12_goesOn, cX12_goesOn, 2, (some .boolean)) (d + 2) 0 0 40 [(0, .ref (g.1 + 119))] [] h rz hz := by
  unfold f_X12_goesOn_b40 at E
  refine qt_aload_n 0 dX12_goesOn_40 rfl rfl ?_
  refine qt_getI (wl_119 h) fe_RX12_240 rfl dX12_goesOn_41 ?_
  refine qt_if_ne 62 dX12_goesOn_44 (by decide) E (fun E => ?_) (fun E => ?_)
  · exact qt_sub _ [0] rfl ((s_X12_goesOn_b62 h E G))
  · refine qt_aload_n 0 dX12_goesOn_47 rfl rfl ?_
    refine qt_getI (wl_119 h) fe_RX12_243 rfl dX12_goesOn_48 ?_
    refine qt_aload_n 0 dX12_goesOn_51 rfl rfl ?_
    refine qt_getI (wl_119 h) fe_RX12_215 rfl dX12_goesOn_52 ?_
    refine qt_icmp_ge 62 dX12_goesOn_55 (by decide) E (fun E => ?_) (fun E => ?_)
    · exact qt_sub _ [0] rfl ((s_X12_goesOn_b62 h E G))
    · refine qt_iconst dX12_goesOn_58 ci_1 ?_
      refine qt_goto 63 dX12_goesOn_59 (by decide) ?_
      exact qt_sub _ [0] rfl ((s_X12_goesOn_b63 (1 : Int32) h E G))
noncomputable def m_X12_goesOn (h : qa_M) : Option (Int32 × qa_M) :=
  qbv (m_X12_blanks h) (fun h1 : qa_M =>
  if (h1.1 119 22) = 0 then (
   if (h1.1 119 20) ≤ (h1.1 119 21) then (
    f_X12_goesOn_b40 h1)
   else (
    qbn (m_X12_sign h1) (fun (c23 : Int32) (h23 : qa_M) =>
    if c23 = (59 : Int32) then (
     f_X12_goesOn_b40 h23)
    else (
     qbv (m_X12_fails (0 : Int32) (h23.1 119 21) h23) (fun h37 : qa_M =>
     f_X12_goesOn_b40 h37)))))
  else (
   f_X12_goesOn_b40 h1))
set_option maxRecDepth 20000 in
theorem c_X12_goesOn {l : Launch} {g : qa_G} {d : Nat} (h : qa_M) {c : Int32} {h1 : qa_M} (E : m_X12_goesOn h = some (c, h1)) : qt_Met l g (yX12_goesOn, cX12_goesOn, 2, (some .boolean)) (d + 2) 0 [.ref (g.1 + 119)] h (some (.int c)) h1 := by
  refine qt_Met.of (plainFor_of_name (by decide)) (Nat.le_of_ble_eq_true rfl) ?_
  have G : qg_i (some (.int c)) h1 ((c, h1)) := ⟨rfl, rfl⟩
  unfold m_X12_goesOn at E
  refine qt_aload_n 0 dX12_goesOn_0 rfl rfl ?_
  obtain ⟨h1, e1, E⟩ := qbv_el E
  refine qt_callVv (b2 := 0) [] (c_X12_blanks h e1) cv_RX12_263 (wl_119 h) rfl rfl rfl (Nat.le_of_ble_eq_true rfl) (Nat.le_of_ble_eq_true rfl) dX12_goesOn_1 ?_
  refine qt_aload_n 0 dX12_goesOn_4 rfl rfl ?_
  refine qt_getI (wl_119 h1) fe_RX12_240 rfl dX12_goesOn_5 ?_
  refine qt_if_ne 40 dX12_goesOn_8 (by decide) E (fun E => ?_) (fun E => ?_)
  · exact qt_sub _ [0] rfl ((s_X12_goesOn_b40 h1 E G))
  · refine qt_aload_n 0 dX12_goesOn_11 rfl rfl ?_
    refine qt_getI (wl_119 h1) fe_RX12_243 rfl dX12_goesOn_12 ?_
    refine qt_aload_n 0 dX12_goesOn_15 rfl rfl ?_
    refine qt_getI (wl_119 h1) fe_RX12_215 rfl dX12_goesOn_16 ?_
    refine qt_icmp_ge 40 dX12_goesOn_19 (by decide) E (fun E => ?_) (fun E => ?_)
    · exact qt_sub _ [0] rfl ((s_X12_goesOn_b40 h1 E G))
    · refine qt_aload_n 0 dX12_goesOn_22 rfl rfl ?_
      obtain ⟨c23, h23, e23, E⟩ := qbn_el E
      refine qt_callVi (b2 := 0) [] (c_X12_sign h1 e23) cv_RX12_246 (wl_119 h1) rfl rfl rfl (Nat.le_of_ble_eq_true rfl) (Nat.le_of_ble_eq_true rfl) dX12_goesOn_23 ?_
      refine qt_bipush dX12_goesOn_26 cb_59 ?_
      refine qt_icmp_eq 40 dX12_goesOn_28 (by decide) E (fun E => ?_) (fun E => ?_)
      · exact qt_sub _ [0] rfl ((s_X12_goesOn_b40 h23 E G))
      · refine qt_aload_n 0 dX12_goesOn_31 rfl rfl ?_
        refine qt_iconst dX12_goesOn_32 ci_0 ?_
        refine qt_aload_n 0 dX12_goesOn_33 rfl rfl ?_
        refine qt_getI (wl_119 h23) fe_RX12_243 rfl dX12_goesOn_34 ?_
        obtain ⟨h37, e37, E⟩ := qbv_el E
        refine qt_callVv (b2 := 0) [.int (0 : Int32), .int (h23.1 119 21)] (c_X12_fails (0 : Int32) (h23.1 119 21) h23 e37) cv_RX12_279 (wl_119 h23) rfl rfl rfl (Nat.le_of_ble_eq_true rfl) (Nat.le_of_ble_eq_true rfl) dX12_goesOn_37 ?_
        exact qt_sub _ [0] rfl ((s_X12_goesOn_b40 h37 E G))
noncomputable def f_X12_lay_b2 (a0 : Nat) (a1 : Nat) (x2 : Int32) (h : qa_M) : Option ((Int32 × qa_M) ⊕ qa_M) :=
  qal 0 a0 h (fun n4 =>
  if (nI n4) ≤ x2 then (
   qup (some h))
  else (
   qal 0 a0 h (fun n12 =>
   qck x2 n12 (
   qal 0 a1 h (fun n13 =>
   qck x2 n13 (
   qbd (qw_I h a1 x2.toNatClampNeg (h.1 a0 x2.toNatClampNeg)) (fun h13 : qa_M =>
   qbd (x2 + (1 : Int32)) (fun v14 : Int32 =>
   some (.inl (v14, h13))))))))))
set_option maxRecDepth 20000 in
theorem s_X12_lay_b2 {l : Launch} {g : qa_G} {d : Nat} {rz : Option Value} {hz : qa_M} (a0 : Nat) (a1 : Nat) (x2 : Int32) (h : qa_M) {z : ((Int32 × qa_M) ⊕ qa_M)} (E : f_X12_lay_b2 a0 a1 x2 h = some z) (G : (Sum.elim (fun (sz : Int32 × qa_M) => qt_At l g (yX12_lay, cX12_lay, 3, none) d 0 0 2 [(0, .ref (g.1 + a0)), (1, .ref (g.1 + a1)), (2, .int sz.1)] [] sz.2 rz hz) (qg_v rz hz)) z) : qt_At l g (yX12_lay, cX12_lay, 3, none) d 0 0 2 [(0, .ref (g.1 + a0)), (1, .ref (g.1 + a1)), (2, .int x2)] [] h rz hz := by
  unfold f_X12_lay_b2 at E
  refine qt_iload_n 2 dX12_lay_2 rfl rfl ?_
  refine qt_aload_n 0 dX12_lay_3 rfl rfl ?_
  obtain ⟨n4, w4, E⟩ := qal_el E
  refine qt_alen (v := nI n4) (by decide) w4 rfl dX12_lay_4 ?_
  refine qt_icmp_ge 20 dX12_lay_5 (by decide) E (fun E => ?_) (fun E => ?_)
  · obtain ⟨z0_, E, G⟩ := qup_g E G
    exact qt_vreturn rfl (Nat.le_of_ble_eq_true rfl) dX12_lay_20 E G
  · refine qt_aload_n 1 dX12_lay_8 rfl rfl ?_
    refine qt_iload_n 2 dX12_lay_9 rfl rfl ?_
    refine qt_aload_n 0 dX12_lay_10 rfl rfl ?_
    refine qt_iload_n 2 dX12_lay_11 rfl rfl ?_
    obtain ⟨n12, w12, E⟩ := qal_el E
    refine qt_iald w12 dX12_lay_12 E (fun E => ?_)
    obtain ⟨n13, w13, E⟩ := qal_el E
    refine qt_iast w13 dX12_lay_13 E (fun h13 E => ?_)
    refine qt_iinc 2 (fun v14 => [(2, .int v14), (0, .ref (g.1 + a0)), (1, .ref (g.1 + a1))]) dX12_lay_14 rfl ci_1 (Nat.le_of_ble_eq_true rfl) (fun _ => rfl) E (fun v14 E => ?_)
    refine qt_goto 2 dX12_lay_17 (by decide) ?_
    cases E
    exact qt_sub _ [1, 2, 0] rfl (G)
noncomputable def f_X12_lay_b2_loop (a0 : Nat) (a1 : Nat) (x2 : Int32) (h : qa_M) : Option qa_M := qlp (fun sz : Int32 × qa_M => f_X12_lay_b2 a0 a1 sz.1 sz.2) (x2, h)
theorem s_X12_lay_b2_loop {l : Launch} {g : qa_G} {d : Nat} {rz : Option Value} {hz : qa_M} (a0 : Nat) (a1 : Nat) (x2 : Int32) (h : qa_M) {z : qa_M} (E : f_X12_lay_b2_loop a0 a1 x2 h = some z) (G : (qg_v rz hz) z) : qt_At l g (yX12_lay, cX12_lay, 3, none) d 0 0 2 [(0, .ref (g.1 + a0)), (1, .ref (g.1 + a1)), (2, .int x2)] [] h rz hz :=
  qlp_ind (fun sz : Int32 × qa_M => qt_At l g (yX12_lay, cX12_lay, 3, none) d 0 0 2 [(0, .ref (g.1 + a0)), (1, .ref (g.1 + a1)), (2, .int sz.1)] [] sz.2 rz hz) (fun sz E => s_X12_lay_b2 a0 a1 sz.1 sz.2 E G) (fun sz sz2 E ih => s_X12_lay_b2 a0 a1 sz.1 sz.2 E ih) (x2, h) E
noncomputable def m_X12_lay (a0 : Nat) (a1 : Nat) (h : qa_M) : Option qa_M :=
  qbd (0 : Int32) (fun v1 : Int32 =>
  f_X12_lay_b2_loop a0 a1 v1 h)
set_option maxRecDepth 20000 in
theorem c_X12_lay {l : Launch} {g : qa_G} {d : Nat} (a0 : Nat) (a1 : Nat) (h : qa_M) {h1 : qa_M} (E : m_X12_lay a0 a1 h = some h1) : qt_Met l g (yX12_lay, cX12_lay, 3, none) d 0 [.ref (g.1 + a0), .ref (g.1 + a1)] h none h1 := by
  refine qt_Met.of (plainFor_of_name (by decide)) (Nat.le_of_ble_eq_true rfl) ?_
  have G : qg_v none h1 (h1) := ⟨rfl, rfl⟩
  unfold m_X12_lay at E
  refine qt_iconst dX12_lay_0 ci_0 ?_
  refine qt_istore_n (fun v1 => [(2, .int v1), (0, .ref (g.1 + a0)), (1, .ref (g.1 + a1))]) dX12_lay_1 rfl (Nat.le_of_ble_eq_true rfl) (fun _ => rfl) E (fun v1 E => ?_)
  exact qt_sub _ [1, 2, 0] rfl ((s_X12_lay_b2_loop a0 a1 v1 h E G))
noncomputable def f_X12_land_b69 (h : qa_M) : Option (Int32 × qa_M) :=
  qbd (qw_I h 119 20 (0 : Int32)) (fun h71 : qa_M =>
  if (h71.1 119 22) ≤ 0 then (
   qbv (m_X12_lay 132 120 h71) (fun h97 : qa_M =>
   qbv (m_X12_lay 133 121 h97) (fun h108 : qa_M =>
   qbv (m_X12_lay 134 122 h108) (fun h119 : qa_M =>
   qbv (m_X12_lay 135 123 h119) (fun h130 : qa_M =>
   qbv (m_X12_lay 136 124 h130) (fun h141 : qa_M =>
   qbv (m_X12_lay 137 125 h141) (fun h152 : qa_M =>
   qbv (m_X12_lay 138 126 h152) (fun h163 : qa_M =>
   qck (5 : Int32) 8 (
   qbd (qw_I h163 120 (5 : Int32).toNatClampNeg (0 : Int32)) (fun h172 : qa_M =>
   qck (2 : Int32) 8 (
   some (h172.1 120 (2 : Int32).toNatClampNeg, h172))))))))))))
  else (
   some (((-2 : Int32) - (h71.1 119 22)), h71)))
set_option maxRecDepth 20000 in
theorem s_X12_land_b69 {l : Launch} {g : qa_G} {d : Nat} {rz : Option Value} {hz : qa_M} (h : qa_M) {z : (Int32 × qa_M)} (E : f_X12_land_b69 h = some z) (G : (qg_i rz hz) z) : qt_At l g (yX12_land, cX12_land, 3, (some .int)) (d + 7) 0 0 69 [(0, .ref (g.1 + 119))] [] h rz hz := by
  unfold f_X12_land_b69 at E
  refine qt_aload_n 0 dX12_land_69 rfl rfl ?_
  refine qt_iconst dX12_land_70 ci_0 ?_
  refine qt_putI (wl_119 h) fd_RX12_215 rfl rfl rfl dX12_land_71 E (fun h71 E => ?_)
  refine qt_aload_n 0 dX12_land_74 rfl rfl ?_
  refine qt_getI (wl_119 h71) fe_RX12_240 rfl dX12_land_75 ?_
  refine qt_if_le 89 dX12_land_78 (by decide) E (fun E => ?_) (fun E => ?_)
  · refine qt_aload_n 0 dX12_land_89 rfl rfl ?_
    refine qt_getS 132 (wl_119 h71) fe_RX12_46 rfl dX12_land_90 ?_
    refine qt_aload_n 0 dX12_land_93 rfl rfl ?_
    refine qt_getS 120 (wl_119 h71) fe_RX12_7 rfl dX12_land_94 ?_
    obtain ⟨h97, e97, E⟩ := qbv_el E
    refine qt_callSv (b2 := 0) [.ref (g.1 + 132), .ref (g.1 + 120)] (c_X12_lay 132 120 h71 e97) cv_RX12_372 rfl (Nat.le_of_ble_eq_true rfl) (Nat.le_of_ble_eq_true rfl) dX12_land_97 ?_
    refine qt_aload_n 0 dX12_land_100 rfl rfl ?_
    refine qt_getS 133 (wl_119 h97) fe_RX12_49 rfl dX12_land_101 ?_
    refine qt_aload_n 0 dX12_land_104 rfl rfl ?_
    refine qt_getS 121 (wl_119 h97) fe_RX12_13 rfl dX12_land_105 ?_
    obtain ⟨h108, e108, E⟩ := qbv_el E
    refine qt_callSv (b2 := 0) [.ref (g.1 + 133), .ref (g.1 + 121)] (c_X12_lay 133 121 h97 e108) cv_RX12_372 rfl (Nat.le_of_ble_eq_true rfl) (Nat.le_of_ble_eq_true rfl) dX12_land_108 ?_
    refine qt_aload_n 0 dX12_land_111 rfl rfl ?_
    refine qt_getS 134 (wl_119 h108) fe_RX12_52 rfl dX12_land_112 ?_
    refine qt_aload_n 0 dX12_land_115 rfl rfl ?_
    refine qt_getS 122 (wl_119 h108) fe_RX12_16 rfl dX12_land_116 ?_
    obtain ⟨h119, e119, E⟩ := qbv_el E
    refine qt_callSv (b2 := 0) [.ref (g.1 + 134), .ref (g.1 + 122)] (c_X12_lay 134 122 h108 e119) cv_RX12_372 rfl (Nat.le_of_ble_eq_true rfl) (Nat.le_of_ble_eq_true rfl) dX12_land_119 ?_
    refine qt_aload_n 0 dX12_land_122 rfl rfl ?_
    refine qt_getS 135 (wl_119 h119) fe_RX12_55 rfl dX12_land_123 ?_
    refine qt_aload_n 0 dX12_land_126 rfl rfl ?_
    refine qt_getS 123 (wl_119 h119) fe_RX12_19 rfl dX12_land_127 ?_
    obtain ⟨h130, e130, E⟩ := qbv_el E
    refine qt_callSv (b2 := 0) [.ref (g.1 + 135), .ref (g.1 + 123)] (c_X12_lay 135 123 h119 e130) cv_RX12_372 rfl (Nat.le_of_ble_eq_true rfl) (Nat.le_of_ble_eq_true rfl) dX12_land_130 ?_
    refine qt_aload_n 0 dX12_land_133 rfl rfl ?_
    refine qt_getS 136 (wl_119 h130) fe_RX12_58 rfl dX12_land_134 ?_
    refine qt_aload_n 0 dX12_land_137 rfl rfl ?_
    refine qt_getS 124 (wl_119 h130) fe_RX12_22 rfl dX12_land_138 ?_
    obtain ⟨h141, e141, E⟩ := qbv_el E
    refine qt_callSv (b2 := 0) [.ref (g.1 + 136), .ref (g.1 + 124)] (c_X12_lay 136 124 h130 e141) cv_RX12_372 rfl (Nat.le_of_ble_eq_true rfl) (Nat.le_of_ble_eq_true rfl) dX12_land_141 ?_
    refine qt_aload_n 0 dX12_land_144 rfl rfl ?_
    refine qt_getS 137 (wl_119 h141) fe_RX12_61 rfl dX12_land_145 ?_
    refine qt_aload_n 0 dX12_land_148 rfl rfl ?_
    refine qt_getS 125 (wl_119 h141) fe_RX12_25 rfl dX12_land_149 ?_
    obtain ⟨h152, e152, E⟩ := qbv_el E
    refine qt_callSv (b2 := 0) [.ref (g.1 + 137), .ref (g.1 + 125)] (c_X12_lay 137 125 h141 e152) cv_RX12_372 rfl (Nat.le_of_ble_eq_true rfl) (Nat.le_of_ble_eq_true rfl) dX12_land_152 ?_
    refine qt_aload_n 0 dX12_land_155 rfl rfl ?_
    refine qt_getS 138 (wl_119 h152) fe_RX12_64 rfl dX12_land_156 ?_
    refine qt_aload_n 0 dX12_land_159 rfl rfl ?_
    refine qt_getS 126 (wl_119 h152) fe_RX12_28 rfl dX12_land_160 ?_
    obtain ⟨h163, e163, E⟩ := qbv_el E
    refine qt_callSv (b2 := 0) [.ref (g.1 + 138), .ref (g.1 + 126)] (c_X12_lay 138 126 h152 e163) cv_RX12_372 rfl (Nat.le_of_ble_eq_true rfl) (Nat.le_of_ble_eq_true rfl) dX12_land_163 ?_
    refine qt_aload_n 0 dX12_land_166 rfl rfl ?_
    refine qt_getS 120 (wl_119 h163) fe_RX12_7 rfl dX12_land_167 ?_
    refine qt_iconst dX12_land_170 ci_5 ?_
    refine qt_iconst dX12_land_171 ci_0 ?_
    refine qt_iast (wl_120 h163) dX12_land_172 E (fun h172 E => ?_)
    refine qt_aload_n 0 dX12_land_173 rfl rfl ?_
    refine qt_getS 120 (wl_119 h172) fe_RX12_7 rfl dX12_land_174 ?_
    refine qt_iconst dX12_land_177 ci_2 ?_
    refine qt_iald (wl_120 h172) dX12_land_178 E (fun E => ?_)
    exact qt_ireturn rfl (Nat.le_of_ble_eq_true rfl) dX12_land_179 E G
  · refine qt_bipush dX12_land_81 cb_m2 ?_
    refine qt_aload_n 0 dX12_land_83 rfl rfl ?_
    refine qt_getI (wl_119 h71) fe_RX12_240 rfl dX12_land_84 ?_
    refine qt_isub dX12_land_87 ?_
    exact qt_ireturn rfl (Nat.le_of_ble_eq_true rfl) dX12_land_88 E G
noncomputable def f_X12_land_b49 (x1 : Int32) (x2 : Int32) (h : qa_M) : Option ((Int32 × Int32 × qa_M) ⊕ (Int32 × qa_M)) :=
  if x2 = 0 then (
   qup (f_X12_land_b69 h))
  else (
   qbv (m_X12_landClause x1 h) (fun h55 : qa_M =>
   qbd (x1 + (1 : Int32)) (fun v58 : Int32 =>
   qbn (m_X12_goesOn h55) (fun (c62 : Int32) (h62 : qa_M) =>
   qbd c62 (fun v65 : Int32 =>
   some (.inl (v58, v65, h62)))))))
set_option maxRecDepth 20000 in
theorem s_X12_land_b49 {l : Launch} {g : qa_G} {d : Nat} {rz : Option Value} {hz : qa_M} (x1 : Int32) (x2 : Int32) (h : qa_M) {z : ((Int32 × Int32 × qa_M) ⊕ (Int32 × qa_M))} (E : f_X12_land_b49 x1 x2 h = some z) (G : (Sum.elim (fun (sz : Int32 × Int32 × qa_M) => qt_At l g (yX12_land, cX12_land, 3, (some .int)) (d + 7) 0 0 49 [(0, .ref (g.1 + 119)), (1, .int sz.1), (2, .int sz.2.1)] [] sz.2.2 rz hz) (qg_i rz hz)) z) : qt_At l g (yX12_land, cX12_land, 3, (some .int)) (d + 7) 0 0 49 [(0, .ref (g.1 + 119)), (1, .int x1), (2, .int x2)] [] h rz hz := by
  unfold f_X12_land_b49 at E
  refine qt_iload_n 2 dX12_land_49 rfl rfl ?_
  refine qt_if_eq 69 dX12_land_50 (by decide) E (fun E => ?_) (fun E => ?_)
  · obtain ⟨z0_, E, G⟩ := qup_g E G
    exact qt_sub _ [0] rfl ((s_X12_land_b69 h E G))
  · refine qt_aload_n 0 dX12_land_53 rfl rfl ?_
    refine qt_iload_n 1 dX12_land_54 rfl rfl ?_
    obtain ⟨h55, e55, E⟩ := qbv_el E
    refine qt_callVv (b2 := 0) [.int x1] (c_X12_landClause x1 h e55) cv_RX12_366 (wl_119 h) rfl rfl rfl (Nat.le_of_ble_eq_true rfl) (Nat.le_of_ble_eq_true rfl) dX12_land_55 ?_
    refine qt_iinc 1 (fun v58 => [(1, .int v58), (0, .ref (g.1 + 119)), (2, .int x2)]) dX12_land_58 rfl ci_1 (Nat.le_of_ble_eq_true rfl) (fun _ => rfl) E (fun v58 E => ?_)
    refine qt_aload_n 1 dX12_land_61 rfl rfl ?_
    obtain ⟨c62, h62, e62, E⟩ := qbn_el E
    refine qt_callVi (b2 := 0) [] (c_X12_goesOn h55 e62) cv_RX12_369 (wl_119 h55) rfl rfl rfl (Nat.le_of_ble_eq_true rfl) (Nat.le_of_ble_eq_true rfl) dX12_land_62 ?_
    refine qt_istore_n (fun v65 => [(2, .int v65), (1, .int v58), (0, .ref (g.1 + 119))]) dX12_land_65 rfl (Nat.le_of_ble_eq_true rfl) (fun _ => rfl) E (fun v65 E => ?_)
    refine qt_goto 49 dX12_land_66 (by decide) ?_
    cases E
    exact qt_sub _ [2, 1, 0] rfl (G)
noncomputable def f_X12_land_b49_loop (x1 : Int32) (x2 : Int32) (h : qa_M) : Option (Int32 × qa_M) := qlp (fun sz : Int32 × Int32 × qa_M => f_X12_land_b49 sz.1 sz.2.1 sz.2.2) (x1, x2, h)
theorem s_X12_land_b49_loop {l : Launch} {g : qa_G} {d : Nat} {rz : Option Value} {hz : qa_M} (x1 : Int32) (x2 : Int32) (h : qa_M) {z : (Int32 × qa_M)} (E : f_X12_land_b49_loop x1 x2 h = some z) (G : (qg_i rz hz) z) : qt_At l g (yX12_land, cX12_land, 3, (some .int)) (d + 7) 0 0 49 [(0, .ref (g.1 + 119)), (1, .int x1), (2, .int x2)] [] h rz hz :=
  qlp_ind (fun sz : Int32 × Int32 × qa_M => qt_At l g (yX12_land, cX12_land, 3, (some .int)) (d + 7) 0 0 49 [(0, .ref (g.1 + 119)), (1, .int sz.1), (2, .int sz.2.1)] [] sz.2.2 rz hz) (fun sz E => s_X12_land_b49 sz.1 sz.2.1 sz.2.2 E G) (fun sz sz2 E ih => s_X12_land_b49 sz.1 sz.2.1 sz.2.2 E ih) (x1, x2, h) E
noncomputable def f_X12_land_b45 (h : qa_M) : Option (Int32 × qa_M) :=
  qbd (0 : Int32) (fun v46 : Int32 =>
  qbd (1 : Int32) (fun v48 : Int32 =>
  f_X12_land_b49_loop v46 v48 h))
set_option maxRecDepth 20000 in
theorem s_X12_land_b45 {l : Launch} {g : qa_G} {d : Nat} {rz : Option Value} {hz : qa_M} (h : qa_M) {z : (Int32 × qa_M)} (E : f_X12_land_b45 h = some z) (G : (qg_i rz hz) z) : qt_At l g (yX12_land, cX12_land, 3, (some .int)) (d + 7) 0 0 45 [(0, .ref (g.1 + 119))] [] h rz hz := by
  unfold f_X12_land_b45 at E
  refine qt_iconst dX12_land_45 ci_0 ?_
  refine qt_istore_n (fun v46 => [(1, .int v46), (0, .ref (g.1 + 119))]) dX12_land_46 rfl (Nat.le_of_ble_eq_true rfl) (fun _ => rfl) E (fun v46 E => ?_)
  refine qt_iconst dX12_land_47 ci_1 ?_
  refine qt_istore_n (fun v48 => [(2, .int v48), (1, .int v46), (0, .ref (g.1 + 119))]) dX12_land_48 rfl (Nat.le_of_ble_eq_true rfl) (fun _ => rfl) E (fun v48 E => ?_)
  exact qt_sub _ [2, 1, 0] rfl ((s_X12_land_b49_loop v46 v48 h E G))
noncomputable def f_X12_land_b26 (x1 : Int32) (h : qa_M) : Option ((Int32 × qa_M) ⊕ (Int32 × qa_M)) :=
  if (36 : Int32) ≤ x1 then (
   qup (f_X12_land_b45 h))
  else (
   qck x1 36 (
   qbd (qw_I h 133 x1.toNatClampNeg (0 : Int32)) (fun h38 : qa_M =>
   qbd (x1 + (1 : Int32)) (fun v39 : Int32 =>
   some (.inl (v39, h38))))))
set_option maxRecDepth 20000 in
theorem s_X12_land_b26 {l : Launch} {g : qa_G} {d : Nat} {rz : Option Value} {hz : qa_M} (x1 : Int32) (h : qa_M) {z : ((Int32 × qa_M) ⊕ (Int32 × qa_M))} (E : f_X12_land_b26 x1 h = some z) (G : (Sum.elim (fun (sz : Int32 × qa_M) => qt_At l g (yX12_land, cX12_land, 3, (some .int)) (d + 7) 0 0 26 [(0, .ref (g.1 + 119)), (1, .int sz.1)] [] sz.2 rz hz) (qg_i rz hz)) z) : qt_At l g (yX12_land, cX12_land, 3, (some .int)) (d + 7) 0 0 26 [(0, .ref (g.1 + 119)), (1, .int x1)] [] h rz hz := by
  unfold f_X12_land_b26 at E
  refine qt_iload_n 1 dX12_land_26 rfl rfl ?_
  refine qt_bipush dX12_land_27 cb_36 ?_
  refine qt_icmp_ge 45 dX12_land_29 (by decide) E (fun E => ?_) (fun E => ?_)
  · obtain ⟨z0_, E, G⟩ := qup_g E G
    exact qt_sub _ [0] rfl ((s_X12_land_b45 h E G))
  · refine qt_aload_n 0 dX12_land_32 rfl rfl ?_
    refine qt_getS 133 (wl_119 h) fe_RX12_49 rfl dX12_land_33 ?_
    refine qt_iload_n 1 dX12_land_36 rfl rfl ?_
    refine qt_iconst dX12_land_37 ci_0 ?_
    refine qt_iast (wl_133 h) dX12_land_38 E (fun h38 E => ?_)
    refine qt_iinc 1 (fun v39 => [(1, .int v39), (0, .ref (g.1 + 119))]) dX12_land_39 rfl ci_1 (Nat.le_of_ble_eq_true rfl) (fun _ => rfl) E (fun v39 E => ?_)
    refine qt_goto 26 dX12_land_42 (by decide) ?_
    cases E
    exact qt_sub _ [1, 0] rfl (G)
noncomputable def f_X12_land_b26_loop (x1 : Int32) (h : qa_M) : Option (Int32 × qa_M) := qlp (fun sz : Int32 × qa_M => f_X12_land_b26 sz.1 sz.2) (x1, h)
theorem s_X12_land_b26_loop {l : Launch} {g : qa_G} {d : Nat} {rz : Option Value} {hz : qa_M} (x1 : Int32) (h : qa_M) {z : (Int32 × qa_M)} (E : f_X12_land_b26_loop x1 h = some z) (G : (qg_i rz hz) z) : qt_At l g (yX12_land, cX12_land, 3, (some .int)) (d + 7) 0 0 26 [(0, .ref (g.1 + 119)), (1, .int x1)] [] h rz hz :=
  qlp_ind (fun sz : Int32 × qa_M => qt_At l g (yX12_land, cX12_land, 3, (some .int)) (d + 7) 0 0 26 [(0, .ref (g.1 + 119)), (1, .int sz.1)] [] sz.2 rz hz) (fun sz E => s_X12_land_b26 sz.1 sz.2 E G) (fun sz sz2 E ih => s_X12_land_b26 sz.1 sz.2 E ih) (x1, h) E
noncomputable def f_X12_land_b24 (h : qa_M) : Option (Int32 × qa_M) :=
  qbd (0 : Int32) (fun v25 : Int32 =>
  f_X12_land_b26_loop v25 h)
set_option maxRecDepth 20000 in
theorem s_X12_land_b24 {l : Launch} {g : qa_G} {d : Nat} {rz : Option Value} {hz : qa_M} (h : qa_M) {z : (Int32 × qa_M)} (E : f_X12_land_b24 h = some z) (G : (qg_i rz hz) z) : qt_At l g (yX12_land, cX12_land, 3, (some .int)) (d + 7) 0 0 24 [(0, .ref (g.1 + 119))] [] h rz hz := by
  unfold f_X12_land_b24 at E
  refine qt_iconst dX12_land_24 ci_0 ?_
  refine qt_istore_n (fun v25 => [(1, .int v25), (0, .ref (g.1 + 119))]) dX12_land_25 rfl (Nat.le_of_ble_eq_true rfl) (fun _ => rfl) E (fun v25 E => ?_)
  exact qt_sub _ [1, 0] rfl ((s_X12_land_b26_loop v25 h E G))
noncomputable def f_X12_land_b6 (x1 : Int32) (h : qa_M) : Option ((Int32 × qa_M) ⊕ (Int32 × qa_M)) :=
  if (5 : Int32) ≤ x1 then (
   qup (f_X12_land_b24 h))
  else (
   qck x1 5 (
   qbd (qw_I h 132 x1.toNatClampNeg (0 : Int32)) (fun h17 : qa_M =>
   qbd (x1 + (1 : Int32)) (fun v18 : Int32 =>
   some (.inl (v18, h17))))))
set_option maxRecDepth 20000 in
theorem s_X12_land_b6 {l : Launch} {g : qa_G} {d : Nat} {rz : Option Value} {hz : qa_M} (x1 : Int32) (h : qa_M) {z : ((Int32 × qa_M) ⊕ (Int32 × qa_M))} (E : f_X12_land_b6 x1 h = some z) (G : (Sum.elim (fun (sz : Int32 × qa_M) => qt_At l g (yX12_land, cX12_land, 3, (some .int)) (d + 7) 0 0 6 [(0, .ref (g.1 + 119)), (1, .int sz.1)] [] sz.2 rz hz) (qg_i rz hz)) z) : qt_At l g (yX12_land, cX12_land, 3, (some .int)) (d + 7) 0 0 6 [(0, .ref (g.1 + 119)), (1, .int x1)] [] h rz hz := by
  unfold f_X12_land_b6 at E
  refine qt_iload_n 1 dX12_land_6 rfl rfl ?_
  refine qt_iconst dX12_land_7 ci_5 ?_
  refine qt_icmp_ge 24 dX12_land_8 (by decide) E (fun E => ?_) (fun E => ?_)
  · obtain ⟨z0_, E, G⟩ := qup_g E G
    exact qt_sub _ [0] rfl ((s_X12_land_b24 h E G))
  · refine qt_aload_n 0 dX12_land_11 rfl rfl ?_
    refine qt_getS 132 (wl_119 h) fe_RX12_46 rfl dX12_land_12 ?_
    refine qt_iload_n 1 dX12_land_15 rfl rfl ?_
    refine qt_iconst dX12_land_16 ci_0 ?_
    refine qt_iast (wl_132 h) dX12_land_17 E (fun h17 E => ?_)
    refine qt_iinc 1 (fun v18 => [(1, .int v18), (0, .ref (g.1 + 119))]) dX12_land_18 rfl ci_1 (Nat.le_of_ble_eq_true rfl) (fun _ => rfl) E (fun v18 E => ?_)
    refine qt_goto 6 dX12_land_21 (by decide) ?_
    cases E
    exact qt_sub _ [1, 0] rfl (G)
noncomputable def f_X12_land_b6_loop (x1 : Int32) (h : qa_M) : Option (Int32 × qa_M) := qlp (fun sz : Int32 × qa_M => f_X12_land_b6 sz.1 sz.2) (x1, h)
theorem s_X12_land_b6_loop {l : Launch} {g : qa_G} {d : Nat} {rz : Option Value} {hz : qa_M} (x1 : Int32) (h : qa_M) {z : (Int32 × qa_M)} (E : f_X12_land_b6_loop x1 h = some z) (G : (qg_i rz hz) z) : qt_At l g (yX12_land, cX12_land, 3, (some .int)) (d + 7) 0 0 6 [(0, .ref (g.1 + 119)), (1, .int x1)] [] h rz hz :=
  qlp_ind (fun sz : Int32 × qa_M => qt_At l g (yX12_land, cX12_land, 3, (some .int)) (d + 7) 0 0 6 [(0, .ref (g.1 + 119)), (1, .int sz.1)] [] sz.2 rz hz) (fun sz E => s_X12_land_b6 sz.1 sz.2 E G) (fun sz sz2 E ih => s_X12_land_b6 sz.1 sz.2 E ih) (x1, h) E
noncomputable def m_X12_land (h : qa_M) : Option (Int32 × qa_M) :=
  qbv (m_X12_starts h) (fun h1 : qa_M =>
  qbd (0 : Int32) (fun v5 : Int32 =>
  f_X12_land_b6_loop v5 h1))
set_option maxRecDepth 20000 in
theorem c_X12_land {l : Launch} {g : qa_G} {d : Nat} (h : qa_M) {c : Int32} {h1 : qa_M} (E : m_X12_land h = some (c, h1)) : qt_Met l g (yX12_land, cX12_land, 3, (some .int)) (d + 7) 0 [.ref (g.1 + 119)] h (some (.int c)) h1 := by
  refine qt_Met.of (plainFor_of_name (by decide)) (Nat.le_of_ble_eq_true rfl) ?_
  have G : qg_i (some (.int c)) h1 ((c, h1)) := ⟨rfl, rfl⟩
  unfold m_X12_land at E
  refine qt_aload_n 0 dX12_land_0 rfl rfl ?_
  obtain ⟨h1, e1, E⟩ := qbv_el E
  refine qt_callVv (b2 := 0) [] (c_X12_starts h e1) cv_RX12_363 (wl_119 h) rfl rfl rfl (Nat.le_of_ble_eq_true rfl) (Nat.le_of_ble_eq_true rfl) dX12_land_1 ?_
  refine qt_iconst dX12_land_4 ci_0 ?_
  refine qt_istore_n (fun v5 => [(1, .int v5), (0, .ref (g.1 + 119))]) dX12_land_5 rfl (Nat.le_of_ble_eq_true rfl) (fun _ => rfl) E (fun v5 E => ?_)
  exact qt_sub _ [1, 0] rfl ((s_X12_land_b6_loop v5 h1 E G))
noncomputable def f_X12_opens_b40 (x1 : Int32) (h : qa_M) : Option qa_M :=
  qck (h.1 119 28) 402 (
  qbd (qw_I h 148 (h.1 119 28).toNatClampNeg x1) (fun h49 : qa_M =>
  qbd (qw_I h49 119 28 ((h49.1 119 28) + (1 : Int32))) (fun h57 : qa_M =>
  some h57)))
set_option maxRecDepth 20000 in
theorem s_X12_opens_b40 {l : Launch} {g : qa_G} {d : Nat} {rz : Option Value} {hz : qa_M} (x1 : Int32) (h : qa_M) {z : qa_M} (E : f_X12_opens_b40 x1 h = some z) (G : (qg_v rz hz) z) : qt_At l g (yX12_opens, cX12_opens, 2, none) (d + 1) 0 0 40 [(0, .ref (g.1 + 119)), (1, .int x1)] [] h rz hz := by
  unfold f_X12_opens_b40 at E
  refine qt_aload_n 0 dX12_opens_40 rfl rfl ?_
  refine qt_getS 148 (wl_119 h) fe_RX12_99 rfl dX12_opens_41 ?_
  refine qt_aload_n 0 dX12_opens_44 rfl rfl ?_
  refine qt_getI (wl_119 h) fe_RX12_309 rfl dX12_opens_45 ?_
  refine qt_iload_n 1 dX12_opens_48 rfl rfl ?_
  refine qt_iast (wl_148 h) dX12_opens_49 E (fun h49 E => ?_)
  refine qt_aload_n 0 dX12_opens_50 rfl rfl ?_
  refine qt_dup dX12_opens_51 rfl ?_
  refine qt_getI (wl_119 h49) fe_RX12_309 rfl dX12_opens_52 ?_
  refine qt_iconst dX12_opens_55 ci_1 ?_
  refine qt_iadd dX12_opens_56 ?_
  refine qt_putI (wl_119 h49) fd_RX12_309 rfl rfl rfl dX12_opens_57 E (fun h57 E => ?_)
  exact qt_vreturn rfl (Nat.le_of_ble_eq_true rfl) dX12_opens_60 E G
noncomputable def f_X12_opens_b30 (x1 : Int32) (h : qa_M) : Option qa_M :=
  qbd (qw_I h 119 26 ((h.1 119 26) + (1 : Int32))) (fun h37 : qa_M =>
  f_X12_opens_b40 x1 h37)
set_option maxRecDepth 20000 in
theorem s_X12_opens_b30 {l : Launch} {g : qa_G} {d : Nat} {rz : Option Value} {hz : qa_M} (x1 : Int32) (h : qa_M) {z : qa_M} (E : f_X12_opens_b30 x1 h = some z) (G : (qg_v rz hz) z) : qt_At l g (yX12_opens, cX12_opens, 2, none) (d + 1) 0 0 30 [(0, .ref (g.1 + 119)), (1, .int x1)] [] h rz hz := by
  unfold f_X12_opens_b30 at E
  refine qt_aload_n 0 dX12_opens_30 rfl rfl ?_
  refine qt_dup dX12_opens_31 rfl ?_
  refine qt_getI (wl_119 h) fe_RX12_312 rfl dX12_opens_32 ?_
  refine qt_iconst dX12_opens_35 ci_1 ?_
  refine qt_iadd dX12_opens_36 ?_
  refine qt_putI (wl_119 h) fd_RX12_312 rfl rfl rfl dX12_opens_37 E (fun h37 E => ?_)
  exact qt_sub _ [0, 1] rfl ((s_X12_opens_b40 x1 h37 E G))
noncomputable def f_X12_opens_b12 (x1 : Int32) (h : qa_M) : Option qa_M :=
  if (h.1 119 26) = (10 : Int32) then (
   qbv (m_X12_fails (2 : Int32) (h.1 119 21) h) (fun h27 : qa_M =>
   f_X12_opens_b30 x1 h27))
  else (
   f_X12_opens_b30 x1 h)
set_option maxRecDepth 20000 in
theorem s_X12_opens_b12 {l : Launch} {g : qa_G} {d : Nat} {rz : Option Value} {hz : qa_M} (x1 : Int32) (h : qa_M) {z : qa_M} (E : f_X12_opens_b12 x1 h = some z) (G : (qg_v rz hz) z) : qt_At l g (yX12_opens, cX12_opens, 2, none) (d + 1) 0 0 12 [(0, .ref (g.1 + 119)), (1, .int x1)] [] h rz hz := by
  unfold f_X12_opens_b12 at E
  refine qt_aload_n 0 dX12_opens_12 rfl rfl ?_
  refine qt_getI (wl_119 h) fe_RX12_312 rfl dX12_opens_13 ?_
  refine qt_bipush dX12_opens_16 cb_10 ?_
  refine qt_icmp_ne 30 dX12_opens_18 (by decide) E (fun E => ?_) (fun E => ?_)
  · exact qt_sub _ [0, 1] rfl ((s_X12_opens_b30 x1 h E G))
  · refine qt_aload_n 0 dX12_opens_21 rfl rfl ?_
    refine qt_iconst dX12_opens_22 ci_2 ?_
    refine qt_aload_n 0 dX12_opens_23 rfl rfl ?_
    refine qt_getI (wl_119 h) fe_RX12_243 rfl dX12_opens_24 ?_
    obtain ⟨h27, e27, E⟩ := qbv_el E
    refine qt_callVv (b2 := 0) [.int (2 : Int32), .int (h.1 119 21)] (c_X12_fails (2 : Int32) (h.1 119 21) h e27) cv_RX12_279 (wl_119 h) rfl rfl rfl (Nat.le_of_ble_eq_true rfl) (Nat.le_of_ble_eq_true rfl) dX12_opens_27 ?_
    exact qt_sub _ [0, 1] rfl ((s_X12_opens_b30 x1 h27 E G))
noncomputable def m_X12_opens (x1 : Int32) (h : qa_M) : Option qa_M :=
  if x1 = (9 : Int32) then (
   f_X12_opens_b12 x1 h)
  else (
   if x1 = (12 : Int32) then (
    f_X12_opens_b12 x1 h)
   else (
    f_X12_opens_b40 x1 h))
set_option maxRecDepth 20000 in
theorem c_X12_opens {l : Launch} {g : qa_G} {d : Nat} (x1 : Int32) (h : qa_M) {h1 : qa_M} (E : m_X12_opens x1 h = some h1) : qt_Met l g (yX12_opens, cX12_opens, 2, none) (d + 1) 0 [.ref (g.1 + 119), .int x1] h none h1 := by
  refine qt_Met.of (plainFor_of_name (by decide)) (Nat.le_of_ble_eq_true rfl) ?_
  have G : qg_v none h1 (h1) := ⟨rfl, rfl⟩
  unfold m_X12_opens at E
  refine qt_iload_n 1 dX12_opens_0 rfl rfl ?_
  refine qt_bipush dX12_opens_1 cb_9 ?_
  refine qt_icmp_eq 12 dX12_opens_3 (by decide) E (fun E => ?_) (fun E => ?_)
  · exact qt_sub _ [0, 1] rfl ((s_X12_opens_b12 x1 h E G))
  · refine qt_iload_n 1 dX12_opens_6 rfl rfl ?_
    refine qt_bipush dX12_opens_7 cb_12 ?_
    refine qt_icmp_ne 40 dX12_opens_9 (by decide) E (fun E => ?_) (fun E => ?_)
    · exact qt_sub _ [0, 1] rfl ((s_X12_opens_b40 x1 h E G))
    · exact qt_sub _ [0, 1] rfl ((s_X12_opens_b12 x1 h E G))
noncomputable def f_X12_isCounted_b15 (h : qa_M) : Option qa_M :=
  qbd (qw_I h 119 27 ((h.1 119 27) + (1 : Int32))) (fun h22 : qa_M =>
  some h22)
set_option maxRecDepth 20000 in
theorem s_X12_isCounted_b15 {l : Launch} {g : qa_G} {d : Nat} {rz : Option Value} {hz : qa_M} (h : qa_M) {z : qa_M} (E : f_X12_isCounted_b15 h = some z) (G : (qg_v rz hz) z) : qt_At l g (yX12_isCounted, cX12_isCounted, 2, none) (d + 1) 0 0 15 [(0, .ref (g.1 + 119))] [] h rz hz := by
  unfold f_X12_isCounted_b15 at E
  refine qt_aload_n 0 dX12_isCounted_15 rfl rfl ?_
  refine qt_dup dX12_isCounted_16 rfl ?_
  refine qt_getI (wl_119 h) fe_RX12_276 rfl dX12_isCounted_17 ?_
  refine qt_iconst dX12_isCounted_20 ci_1 ?_
  refine qt_iadd dX12_isCounted_21 ?_
  refine qt_putI (wl_119 h) fd_RX12_276 rfl rfl rfl dX12_isCounted_22 E (fun h22 E => ?_)
  exact qt_vreturn rfl (Nat.le_of_ble_eq_true rfl) dX12_isCounted_25 E G
noncomputable def m_X12_isCounted (x1 : Int32) (h : qa_M) : Option qa_M :=
  if (h.1 119 27) = (60 : Int32) then (
   qbv (m_X12_fails (3 : Int32) x1 h) (fun h12 : qa_M =>
   f_X12_isCounted_b15 h12))
  else (
   f_X12_isCounted_b15 h)
set_option maxRecDepth 20000 in
theorem c_X12_isCounted {l : Launch} {g : qa_G} {d : Nat} (x1 : Int32) (h : qa_M) {h1 : qa_M} (E : m_X12_isCounted x1 h = some h1) : qt_Met l g (yX12_isCounted, cX12_isCounted, 2, none) (d + 1) 0 [.ref (g.1 + 119), .int x1] h none h1 := by
  refine qt_Met.of (plainFor_of_name (by decide)) (Nat.le_of_ble_eq_true rfl) ?_
  have G : qg_v none h1 (h1) := ⟨rfl, rfl⟩
  unfold m_X12_isCounted at E
  refine qt_aload_n 0 dX12_isCounted_0 rfl rfl ?_
  refine qt_getI (wl_119 h) fe_RX12_276 rfl dX12_isCounted_1 ?_
  refine qt_bipush dX12_isCounted_4 cb_60 ?_
  refine qt_icmp_ne 15 dX12_isCounted_6 (by decide) E (fun E => ?_) (fun E => ?_)
  · exact qt_sub _ [0] rfl ((s_X12_isCounted_b15 h E G))
  · refine qt_aload_n 0 dX12_isCounted_9 rfl rfl ?_
    refine qt_iconst dX12_isCounted_10 ci_3 ?_
    refine qt_iload_n 1 dX12_isCounted_11 rfl rfl ?_
    obtain ⟨h12, e12, E⟩ := qbv_el E
    refine qt_callVv (b2 := 0) [.int (3 : Int32), .int x1] (c_X12_fails (3 : Int32) x1 h e12) cv_RX12_279 (wl_119 h) rfl rfl rfl (Nat.le_of_ble_eq_true rfl) (Nat.le_of_ble_eq_true rfl) dX12_isCounted_12 ?_
    exact qt_sub _ [0] rfl ((s_X12_isCounted_b15 h12 E G))
noncomputable def m_X12_entry (x1 : Int32) (x2 : Int32) (h : qa_M) : Option qa_M :=
  if (h.1 119 22) = 0 then (
   qck (((300 : Int32) * (h.1 119 23)) + (h.1 119 25)) 1200 (
   qbd (qw_I h 140 (((300 : Int32) * (h.1 119 23)) + (h.1 119 25)).toNatClampNeg x1) (fun h25 : qa_M =>
   qck (((300 : Int32) * (h25.1 119 23)) + (h25.1 119 25)) 1200 (
   qbd (qw_I h25 141 (((300 : Int32) * (h25.1 119 23)) + (h25.1 119 25)).toNatClampNeg x2) (fun h44 : qa_M =>
   qbd (qw_I h44 119 25 ((h44.1 119 25) + (1 : Int32))) (fun h52 : qa_M =>
   some h52))))))
  else (
   some h)
set_option maxRecDepth 20000 in
theorem c_X12_entry {l : Launch} {g : qa_G} {d : Nat} (x1 : Int32) (x2 : Int32) (h : qa_M) {h1 : qa_M} (E : m_X12_entry x1 x2 h = some h1) : qt_Met l g (yX12_entry, cX12_entry, 3, none) d 0 [.ref (g.1 + 119), .int x1, .int x2] h none h1 := by
  refine qt_Met.of (plainFor_of_name (by decide)) (Nat.le_of_ble_eq_true rfl) ?_
  have G : qg_v none h1 (h1) := ⟨rfl, rfl⟩
  unfold m_X12_entry at E
  refine qt_aload_n 0 dX12_entry_0 rfl rfl ?_
  refine qt_getI (wl_119 h) fe_RX12_240 rfl dX12_entry_1 ?_
  refine qt_if_ne 55 dX12_entry_4 (by decide) E (fun E => ?_) (fun E => ?_)
  · exact qt_vreturn rfl (Nat.le_of_ble_eq_true rfl) dX12_entry_55 E G
  · refine qt_aload_n 0 dX12_entry_7 rfl rfl ?_
    refine qt_getS 140 (wl_119 h) fe_RX12_75 rfl dX12_entry_8 ?_
    refine qt_sipush dX12_entry_11 cs_300 ?_
    refine qt_aload_n 0 dX12_entry_14 rfl rfl ?_
    refine qt_getI (wl_119 h) fe_RX12_270 rfl dX12_entry_15 ?_
    refine qt_imul dX12_entry_18 ?_
    refine qt_aload_n 0 dX12_entry_19 rfl rfl ?_
    refine qt_getI (wl_119 h) fe_RX12_273 rfl dX12_entry_20 ?_
    refine qt_iadd dX12_entry_23 ?_
    refine qt_iload_n 1 dX12_entry_24 rfl rfl ?_
    refine qt_iast (wl_140 h) dX12_entry_25 E (fun h25 E => ?_)
    refine qt_aload_n 0 dX12_entry_26 rfl rfl ?_
    refine qt_getS 141 (wl_119 h25) fe_RX12_78 rfl dX12_entry_27 ?_
    refine qt_sipush dX12_entry_30 cs_300 ?_
    refine qt_aload_n 0 dX12_entry_33 rfl rfl ?_
    refine qt_getI (wl_119 h25) fe_RX12_270 rfl dX12_entry_34 ?_
    refine qt_imul dX12_entry_37 ?_
    refine qt_aload_n 0 dX12_entry_38 rfl rfl ?_
    refine qt_getI (wl_119 h25) fe_RX12_273 rfl dX12_entry_39 ?_
    refine qt_iadd dX12_entry_42 ?_
    refine qt_iload_n 2 dX12_entry_43 rfl rfl ?_
    refine qt_iast (wl_141 h25) dX12_entry_44 E (fun h44 E => ?_)
    refine qt_aload_n 0 dX12_entry_45 rfl rfl ?_
    refine qt_dup dX12_entry_46 rfl ?_
    refine qt_getI (wl_119 h44) fe_RX12_273 rfl dX12_entry_47 ?_
    refine qt_iconst dX12_entry_50 ci_1 ?_
    refine qt_iadd dX12_entry_51 ?_
    refine qt_putI (wl_119 h44) fd_RX12_273 rfl rfl rfl dX12_entry_52 E (fun h52 E => ?_)
    exact qt_vreturn rfl (Nat.le_of_ble_eq_true rfl) dX12_entry_55 E G
noncomputable def m_X12_wordOf (x0 : Int32) (h : qa_M) : Option (Nat × qa_M) :=
  if x0 = (0 : Int32) then (
   some (12, h))
  else (
  if x0 = (1 : Int32) then (
   some (13, h))
  else (
  if x0 = (2 : Int32) then (
   some (14, h))
  else (
  if x0 = (3 : Int32) then (
   some (15, h))
  else (
  if x0 = (4 : Int32) then (
   some (7, h))
  else (
  if x0 = (5 : Int32) then (
   some (8, h))
  else (
  some (16, h)))))))
set_option maxRecDepth 20000 in
theorem c_X12_wordOf {l : Launch} {g : qa_G} {d : Nat} (x0 : Int32) (h : qa_M) {c : Nat} {h1 : qa_M} (E : m_X12_wordOf x0 h = some (c, h1)) : qt_Met l g (yX12_wordOf, cX12_wordOf, 1, (some (.object "java/lang/String"))) d 0 [.int x0] h (some (.ref (g.2.2.2.1 c))) h1 := by
  refine qt_Met.of (plainFor_of_name (by decide)) (Nat.le_of_ble_eq_true rfl) ?_
  have G : qg_s g (some (.ref (g.2.2.2.1 c))) h1 ((c, h1)) := ⟨rfl, rfl⟩
  unfold m_X12_wordOf at E
  refine qt_iload_n 0 dX12_wordOf_0 rfl rfl ?_
  by_cases c1_0 : x0 = (0 : Int32)
  · replace E := qif_t c1_0 E
    refine qt_tabIn (off := 39) 40 dX12_wordOf_1 c1_0 (by decide) (by decide) rfl (by decide) ?_
    refine qt_ldcS sr_RX12_222 dX12_wordOf_40 ?_
    exact qt_sreturn rfl (Nat.le_of_ble_eq_true rfl) dX12_wordOf_42 E G
  replace E := qif_f c1_0 E
  by_cases c1_1 : x0 = (1 : Int32)
  · replace E := qif_t c1_1 E
    refine qt_tabIn (off := 42) 43 dX12_wordOf_1 c1_1 (by decide) (by decide) rfl (by decide) ?_
    refine qt_ldcS sr_RX12_224 dX12_wordOf_43 ?_
    exact qt_sreturn rfl (Nat.le_of_ble_eq_true rfl) dX12_wordOf_45 E G
  replace E := qif_f c1_1 E
  by_cases c1_2 : x0 = (2 : Int32)
  · replace E := qif_t c1_2 E
    refine qt_tabIn (off := 45) 46 dX12_wordOf_1 c1_2 (by decide) (by decide) rfl (by decide) ?_
    refine qt_ldcS sr_RX12_226 dX12_wordOf_46 ?_
    exact qt_sreturn rfl (Nat.le_of_ble_eq_true rfl) dX12_wordOf_48 E G
  replace E := qif_f c1_2 E
  by_cases c1_3 : x0 = (3 : Int32)
  · replace E := qif_t c1_3 E
    refine qt_tabIn (off := 48) 49 dX12_wordOf_1 c1_3 (by decide) (by decide) rfl (by decide) ?_
    refine qt_ldcS sr_RX12_228 dX12_wordOf_49 ?_
    exact qt_sreturn rfl (Nat.le_of_ble_eq_true rfl) dX12_wordOf_51 E G
  replace E := qif_f c1_3 E
  by_cases c1_4 : x0 = (4 : Int32)
  · replace E := qif_t c1_4 E
    refine qt_tabIn (off := 51) 52 dX12_wordOf_1 c1_4 (by decide) (by decide) rfl (by decide) ?_
    refine qt_ldcS sr_RX12_229 dX12_wordOf_52 ?_
    exact qt_sreturn rfl (Nat.le_of_ble_eq_true rfl) dX12_wordOf_54 E G
  replace E := qif_f c1_4 E
  by_cases c1_5 : x0 = (5 : Int32)
  · replace E := qif_t c1_5 E
    refine qt_tabIn (off := 54) 55 dX12_wordOf_1 c1_5 (by decide) (by decide) rfl (by decide) ?_
    refine qt_ldcS sr_RX12_231 dX12_wordOf_55 ?_
    exact qt_sreturn rfl (Nat.le_of_ble_eq_true rfl) dX12_wordOf_57 E G
  replace E := qif_f c1_5 E
  have e1_0 : (x0 : Int32).toInt ≠ 0 := fun q => c1_0 (Int32.toInt_inj.mp (q.trans (by decide)))
  have e1_1 : (x0 : Int32).toInt ≠ 1 := fun q => c1_1 (Int32.toInt_inj.mp (q.trans (by decide)))
  have e1_2 : (x0 : Int32).toInt ≠ 2 := fun q => c1_2 (Int32.toInt_inj.mp (q.trans (by decide)))
  have e1_3 : (x0 : Int32).toInt ≠ 3 := fun q => c1_3 (Int32.toInt_inj.mp (q.trans (by decide)))
  have e1_4 : (x0 : Int32).toInt ≠ 4 := fun q => c1_4 (Int32.toInt_inj.mp (q.trans (by decide)))
  have e1_5 : (x0 : Int32).toInt ≠ 5 := fun q => c1_5 (Int32.toInt_inj.mp (q.trans (by decide)))
  refine qt_tabOut 58 dX12_wordOf_1 (by omega) (by decide) ?_
  refine qt_ldcS sr_RX12_233 dX12_wordOf_58 ?_
  exact qt_sreturn rfl (Nat.le_of_ble_eq_true rfl) dX12_wordOf_60 E G
noncomputable def f_X12_value_b63 (x1 : Int32) (x2 : Int32) (h : qa_M) : Option qa_M :=
  if x2 = (h.1 119 29) then (
   qbv (m_X12_fails (0 : Int32) x1 h) (fun h74 : qa_M =>
   some h74))
  else (
   qbv (m_X12_isCounted x1 h) (fun h80 : qa_M =>
   qbn (m_X12_wordOf x2 h80) (fun (c89 : Nat) (h89 : qa_M) =>
   qpr (c89 < 19) (
   qbd (qw_I h89 119 21 ((h80.1 119 21) + (nI (qa_len c89)))) (fun h96 : qa_M =>
   qbv (m_X12_entry (1 : Int32) x2 h96) (fun h102 : qa_M =>
   some h102))))))
set_option maxRecDepth 20000 in
theorem s_X12_value_b63 {l : Launch} {g : qa_G} {d : Nat} {rz : Option Value} {hz : qa_M} (x1 : Int32) (x2 : Int32) (h : qa_M) {z : qa_M} (E : f_X12_value_b63 x1 x2 h = some z) (G : (qg_v rz hz) z) : qt_At l g (yX12_value, cX12_value, 3, none) (d + 5) 0 0 63 [(0, .ref (g.1 + 119)), (1, .int x1), (2, .int x2)] [] h rz hz := by
  unfold f_X12_value_b63 at E
  refine qt_iload_n 2 dX12_value_63 rfl rfl ?_
  refine qt_aload_n 0 dX12_value_64 rfl rfl ?_
  refine qt_getI (wl_119 h) fe_RX12_67 rfl dX12_value_65 ?_
  refine qt_icmp_ne 78 dX12_value_68 (by decide) E (fun E => ?_) (fun E => ?_)
  · refine qt_aload_n 0 dX12_value_78 rfl rfl ?_
    refine qt_iload_n 1 dX12_value_79 rfl rfl ?_
    obtain ⟨h80, e80, E⟩ := qbv_el E
    refine qt_callVv (b2 := 0) [.int x1] (c_X12_isCounted x1 h e80) cv_RX12_290 (wl_119 h) rfl rfl rfl (Nat.le_of_ble_eq_true rfl) (Nat.le_of_ble_eq_true rfl) dX12_value_80 ?_
    refine qt_aload_n 0 dX12_value_83 rfl rfl ?_
    refine qt_dup dX12_value_84 rfl ?_
    refine qt_getI (wl_119 h80) fe_RX12_243 rfl dX12_value_85 ?_
    refine qt_iload_n 2 dX12_value_88 rfl rfl ?_
    obtain ⟨c89, h89, e89, E⟩ := qbn_el E
    refine qt_callSs (b2 := 0) [.int x2] (c_X12_wordOf x2 h80 e89) cv_RX12_296 rfl (Nat.le_of_ble_eq_true rfl) (Nat.le_of_ble_eq_true rfl) dX12_value_89 ?_
    obtain ⟨p89, E⟩ := qpr_el E
    refine qt_strlen p89 tb_1625 dX12_value_92 (Nat.le_of_ble_eq_true rfl) ?_
    refine qt_iadd dX12_value_95 ?_
    refine qt_putI (wl_119 h89) fd_RX12_243 rfl rfl rfl dX12_value_96 E (fun h96 E => ?_)
    refine qt_aload_n 0 dX12_value_99 rfl rfl ?_
    refine qt_iconst dX12_value_100 ci_1 ?_
    refine qt_iload_n 2 dX12_value_101 rfl rfl ?_
    obtain ⟨h102, e102, E⟩ := qbv_el E
    refine qt_callVv (b2 := 0) [.int (1 : Int32), .int x2] (c_X12_entry (1 : Int32) x2 h96 e102) cv_RX12_293 (wl_119 h96) rfl rfl rfl (Nat.le_of_ble_eq_true rfl) (Nat.le_of_ble_eq_true rfl) dX12_value_102 ?_
    exact qt_vreturn rfl (Nat.le_of_ble_eq_true rfl) dX12_value_105 E G
  · refine qt_aload_n 0 dX12_value_71 rfl rfl ?_
    refine qt_iconst dX12_value_72 ci_0 ?_
    refine qt_iload_n 1 dX12_value_73 rfl rfl ?_
    obtain ⟨h74, e74, E⟩ := qbv_el E
    refine qt_callVv (b2 := 0) [.int (0 : Int32), .int x1] (c_X12_fails (0 : Int32) x1 h e74) cv_RX12_279 (wl_119 h) rfl rfl rfl (Nat.le_of_ble_eq_true rfl) (Nat.le_of_ble_eq_true rfl) dX12_value_74 ?_
    exact qt_vreturn rfl (Nat.le_of_ble_eq_true rfl) dX12_value_77 E G
noncomputable def f_X12_value_b38 (x1 : Int32) (x2 : Int32) (h : qa_M) : Option ((Int32 × Int32 × qa_M) ⊕ qa_M) :=
  if (h.1 119 29) ≤ x2 then (
   qup (f_X12_value_b63 x1 x2 h))
  else (
   qbn (m_X12_wordOf x2 h) (fun (c48 : Nat) (h48 : qa_M) =>
   qpr (c48 < 19) (
   qbn (m_X12_stood c48 h48) (fun (c51 : Int32) (h51 : qa_M) =>
   if c51 = 0 then (
    qbd (x2 + (1 : Int32)) (fun v57 : Int32 =>
    some (.inl (x1, v57, h51))))
   else (
    qup (f_X12_value_b63 x1 x2 h51))))))
set_option maxRecDepth 20000 in
theorem s_X12_value_b38 {l : Launch} {g : qa_G} {d : Nat} {rz : Option Value} {hz : qa_M} (x1 : Int32) (x2 : Int32) (h : qa_M) {z : ((Int32 × Int32 × qa_M) ⊕ qa_M)} (E : f_X12_value_b38 x1 x2 h = some z) (G : (Sum.elim (fun (sz : Int32 × Int32 × qa_M) => qt_At l g (yX12_value, cX12_value, 3, none) (d + 5) 0 0 38 [(0, .ref (g.1 + 119)), (1, .int sz.1), (2, .int sz.2.1)] [] sz.2.2 rz hz) (qg_v rz hz)) z) : qt_At l g (yX12_value, cX12_value, 3, none) (d + 5) 0 0 38 [(0, .ref (g.1 + 119)), (1, .int x1), (2, .int x2)] [] h rz hz := by
  unfold f_X12_value_b38 at E
  refine qt_iload_n 2 dX12_value_38 rfl rfl ?_
  refine qt_aload_n 0 dX12_value_39 rfl rfl ?_
  refine qt_getI (wl_119 h) fe_RX12_67 rfl dX12_value_40 ?_
  refine qt_icmp_ge 63 dX12_value_43 (by decide) E (fun E => ?_) (fun E => ?_)
  · obtain ⟨z0_, E, G⟩ := qup_g E G
    exact qt_sub _ [0, 1, 2] rfl ((s_X12_value_b63 x1 x2 h E G))
  · refine qt_aload_n 0 dX12_value_46 rfl rfl ?_
    refine qt_iload_n 2 dX12_value_47 rfl rfl ?_
    obtain ⟨c48, h48, e48, E⟩ := qbn_el E
    refine qt_callSs (b2 := 0) [.int x2] (c_X12_wordOf x2 h e48) cv_RX12_296 rfl (Nat.le_of_ble_eq_true rfl) (Nat.le_of_ble_eq_true rfl) dX12_value_48 ?_
    obtain ⟨p48, E⟩ := qpr_el E
    obtain ⟨c51, h51, e51, E⟩ := qbn_el E
    refine qt_callVi (b2 := 0) [.ref (g.2.2.2.1 c48)] (c_X12_stood c48 h48 p48 e51) cv_RX12_266 (wl_119 h48) rfl rfl rfl (Nat.le_of_ble_eq_true rfl) (Nat.le_of_ble_eq_true rfl) dX12_value_51 ?_
    refine qt_if_ne 63 dX12_value_54 (by decide) E (fun E => ?_) (fun E => ?_)
    · obtain ⟨z0_, E, G⟩ := qup_g E G
      exact qt_sub _ [0, 1, 2] rfl ((s_X12_value_b63 x1 x2 h51 E G))
    · refine qt_iinc 2 (fun v57 => [(2, .int v57), (0, .ref (g.1 + 119)), (1, .int x1)]) dX12_value_57 rfl ci_1 (Nat.le_of_ble_eq_true rfl) (fun _ => rfl) E (fun v57 E => ?_)
      refine qt_goto 38 dX12_value_60 (by decide) ?_
      cases E
      exact qt_sub _ [1, 2, 0] rfl (G)
noncomputable def f_X12_value_b38_loop (x1 : Int32) (x2 : Int32) (h : qa_M) : Option qa_M := qlp (fun sz : Int32 × Int32 × qa_M => f_X12_value_b38 sz.1 sz.2.1 sz.2.2) (x1, x2, h)
theorem s_X12_value_b38_loop {l : Launch} {g : qa_G} {d : Nat} {rz : Option Value} {hz : qa_M} (x1 : Int32) (x2 : Int32) (h : qa_M) {z : qa_M} (E : f_X12_value_b38_loop x1 x2 h = some z) (G : (qg_v rz hz) z) : qt_At l g (yX12_value, cX12_value, 3, none) (d + 5) 0 0 38 [(0, .ref (g.1 + 119)), (1, .int x1), (2, .int x2)] [] h rz hz :=
  qlp_ind (fun sz : Int32 × Int32 × qa_M => qt_At l g (yX12_value, cX12_value, 3, none) (d + 5) 0 0 38 [(0, .ref (g.1 + 119)), (1, .int sz.1), (2, .int sz.2.1)] [] sz.2.2 rz hz) (fun sz E => s_X12_value_b38 sz.1 sz.2.1 sz.2.2 E G) (fun sz sz2 E ih => s_X12_value_b38 sz.1 sz.2.1 sz.2.2 E ih) (x1, x2, h) E
noncomputable def m_X12_value (h : qa_M) : Option qa_M :=
  qbv (m_X12_blanks h) (fun h1 : qa_M =>
  qbd (h1.1 119 21) (fun v8 : Int32 =>
  qbn (m_X12_isDigit h1) (fun (c10 : Int32) (h10 : qa_M) =>
  if c10 = 0 then (
   qbd (0 : Int32) (fun v37 : Int32 =>
   f_X12_value_b38_loop v8 v37 h10))
  else (
   qbn (m_X12_digits (99999 : Int32) h10) (fun (c20 : Int32) (h20 : qa_M) =>
   qbd c20 (fun v23 : Int32 =>
   qbv (m_X12_isCounted v8 h20) (fun h26 : qa_M =>
   qbv (m_X12_entry (0 : Int32) v23 h26) (fun h32 : qa_M =>
   some h32))))))))
set_option maxRecDepth 20000 in
theorem c_X12_value {l : Launch} {g : qa_G} {d : Nat} (h : qa_M) {h1 : qa_M} (E : m_X12_value h = some h1) : qt_Met l g (yX12_value, cX12_value, 3, none) (d + 5) 0 [.ref (g.1 + 119)] h none h1 := by
  refine qt_Met.of (plainFor_of_name (by decide)) (Nat.le_of_ble_eq_true rfl) ?_
  have G : qg_v none h1 (h1) := ⟨rfl, rfl⟩
  unfold m_X12_value at E
  refine qt_aload_n 0 dX12_value_0 rfl rfl ?_
  obtain ⟨h1, e1, E⟩ := qbv_el E
  refine qt_callVv (b2 := 0) [] (c_X12_blanks h e1) cv_RX12_263 (wl_119 h) rfl rfl rfl (Nat.le_of_ble_eq_true rfl) (Nat.le_of_ble_eq_true rfl) dX12_value_1 ?_
  refine qt_aload_n 0 dX12_value_4 rfl rfl ?_
  refine qt_getI (wl_119 h1) fe_RX12_243 rfl dX12_value_5 ?_
  refine qt_istore_n (fun v8 => [(1, .int v8), (0, .ref (g.1 + 119))]) dX12_value_8 rfl (Nat.le_of_ble_eq_true rfl) (fun _ => rfl) E (fun v8 E => ?_)
  refine qt_aload_n 1 dX12_value_9 rfl rfl ?_
  obtain ⟨c10, h10, e10, E⟩ := qbn_el E
  refine qt_callVi (b2 := 0) [] (c_X12_isDigit h1 e10) cv_RX12_283 (wl_119 h1) rfl rfl rfl (Nat.le_of_ble_eq_true rfl) (Nat.le_of_ble_eq_true rfl) dX12_value_10 ?_
  refine qt_if_eq 36 dX12_value_13 (by decide) E (fun E => ?_) (fun E => ?_)
  · refine qt_iconst dX12_value_36 ci_0 ?_
    refine qt_istore_n (fun v37 => [(2, .int v37), (1, .int v8), (0, .ref (g.1 + 119))]) dX12_value_37 rfl (Nat.le_of_ble_eq_true rfl) (fun _ => rfl) E (fun v37 E => ?_)
    exact qt_sub _ [2, 1, 0] rfl ((s_X12_value_b38_loop v8 v37 h10 E G))
  · refine qt_aload_n 1 dX12_value_16 rfl rfl ?_
    refine qt_ldcw tb_1639 dX12_value_17 ?_
    obtain ⟨c20, h20, e20, E⟩ := qbn_el E
    refine qt_callVi (b2 := 0) [.int (99999 : Int32)] (c_X12_digits (99999 : Int32) h10 e20) cv_RX12_287 (wl_119 h10) rfl rfl rfl (Nat.le_of_ble_eq_true rfl) (Nat.le_of_ble_eq_true rfl) dX12_value_20 ?_
    refine qt_istore_n (fun v23 => [(2, .int v23), (1, .int v8), (0, .ref (g.1 + 119))]) dX12_value_23 rfl (Nat.le_of_ble_eq_true rfl) (fun _ => rfl) E (fun v23 E => ?_)
    refine qt_aload_n 2 dX12_value_24 rfl rfl ?_
    refine qt_iload_n 1 dX12_value_25 rfl rfl ?_
    obtain ⟨h26, e26, E⟩ := qbv_el E
    refine qt_callVv (b2 := 0) [.int v8] (c_X12_isCounted v8 h20 e26) cv_RX12_290 (wl_119 h20) rfl rfl rfl (Nat.le_of_ble_eq_true rfl) (Nat.le_of_ble_eq_true rfl) dX12_value_26 ?_
    refine qt_aload_n 2 dX12_value_29 rfl rfl ?_
    refine qt_iconst dX12_value_30 ci_0 ?_
    refine qt_iload_n 0 dX12_value_31 rfl rfl ?_
    obtain ⟨h32, e32, E⟩ := qbv_el E
    refine qt_callVv (b2 := 0) [.int (0 : Int32), .int v23] (c_X12_entry (0 : Int32) v23 h26 e32) cv_RX12_293 (wl_119 h26) rfl rfl rfl (Nat.le_of_ble_eq_true rfl) (Nat.le_of_ble_eq_true rfl) dX12_value_32 ?_
    exact qt_vreturn rfl (Nat.le_of_ble_eq_true rfl) dX12_value_35 E G
noncomputable def f_X12_term_b49 (s0 : Int32) (h : qa_M) : Option ((qa_M) ⊕ qa_M) :=
  qbd s0 (fun v49 : Int32 =>
  qbd (qw_I h 119 21 ((h.1 119 21) + (1 : Int32))) (fun h57 : qa_M =>
  qbv (m_X12_value h57) (fun h61 : qa_M =>
  qbv (m_X12_entry v49 (0 : Int32) h61) (fun h67 : qa_M =>
  qbv (m_X12_blanks h67) (fun h71 : qa_M =>
  some (.inl h71))))))
set_option maxRecDepth 20000 in
theorem s_X12_term_b49 {l : Launch} {g : qa_G} {d : Nat} {rz : Option Value} {hz : qa_M} (s0 : Int32) (h : qa_M) {z : ((qa_M) ⊕ qa_M)} (E : f_X12_term_b49 s0 h = some z) (G : (Sum.elim (fun (sz : qa_M) => qt_At l g (yX12_term, cX12_term, 2, none) (d + 6) 0 0 8 [(0, .ref (g.1 + 119))] [] sz rz hz) (qg_v rz hz)) z) : qt_At l g (yX12_term, cX12_term, 2, none) (d + 6) 0 0 49 [(0, .ref (g.1 + 119))] [.int s0] h rz hz := by
  unfold f_X12_term_b49 at E
  refine qt_istore_n (fun v49 => [(1, .int v49), (0, .ref (g.1 + 119))]) dX12_term_49 rfl (Nat.le_of_ble_eq_true rfl) (fun _ => rfl) E (fun v49 E => ?_)
  refine qt_aload_n 1 dX12_term_50 rfl rfl ?_
  refine qt_dup dX12_term_51 rfl ?_
  refine qt_getI (wl_119 h) fe_RX12_243 rfl dX12_term_52 ?_
  refine qt_iconst dX12_term_55 ci_1 ?_
  refine qt_iadd dX12_term_56 ?_
  refine qt_putI (wl_119 h) fd_RX12_243 rfl rfl rfl dX12_term_57 E (fun h57 E => ?_)
  refine qt_aload_n 1 dX12_term_60 rfl rfl ?_
  obtain ⟨h61, e61, E⟩ := qbv_el E
  refine qt_callVv (b2 := 0) [] (c_X12_value h57 e61) cv_RX12_300 (wl_119 h57) rfl rfl rfl (Nat.le_of_ble_eq_true rfl) (Nat.le_of_ble_eq_true rfl) dX12_term_61 ?_
  refine qt_aload_n 1 dX12_term_64 rfl rfl ?_
  refine qt_iload_n 0 dX12_term_65 rfl rfl ?_
  refine qt_iconst dX12_term_66 ci_0 ?_
  obtain ⟨h67, e67, E⟩ := qbv_el E
  refine qt_callVv (b2 := 0) [.int v49, .int (0 : Int32)] (c_X12_entry v49 (0 : Int32) h61 e67) cv_RX12_293 (wl_119 h61) rfl rfl rfl (Nat.le_of_ble_eq_true rfl) (Nat.le_of_ble_eq_true rfl) dX12_term_67 ?_
  refine qt_aload_n 1 dX12_term_70 rfl rfl ?_
  obtain ⟨h71, e71, E⟩ := qbv_el E
  refine qt_callVv (b2 := 0) [] (c_X12_blanks h67 e71) cv_RX12_263 (wl_119 h67) rfl rfl rfl (Nat.le_of_ble_eq_true rfl) (Nat.le_of_ble_eq_true rfl) dX12_term_71 ?_
  refine qt_goto 8 dX12_term_74 (by decide) ?_
  cases E
  exact qt_sub _ [1] rfl (G)
noncomputable def f_X12_term_b33 (h : qa_M) : Option ((qa_M) ⊕ qa_M) :=
  qbn (m_X12_sign h) (fun (c34 : Int32) (h34 : qa_M) =>
  if c34 = (42 : Int32) then (
   f_X12_term_b49 (13 : Int32) h34)
  else (
   f_X12_term_b49 (14 : Int32) h34))
set_option maxRecDepth 20000 in
theorem s_X12_term_b33 {l : Launch} {g : qa_G} {d : Nat} {rz : Option Value} {hz : qa_M} (h : qa_M) {z : ((qa_M) ⊕ qa_M)} (E : f_X12_term_b33 h = some z) (G : (Sum.elim (fun (sz : qa_M) => qt_At l g (yX12_term, cX12_term, 2, none) (d + 6) 0 0 8 [(0, .ref (g.1 + 119))] [] sz rz hz) (qg_v rz hz)) z) : qt_At l g (yX12_term, cX12_term, 2, none) (d + 6) 0 0 33 [(0, .ref (g.1 + 119))] [] h rz hz := by
  unfold f_X12_term_b33 at E
  refine qt_aload_n 0 dX12_term_33 rfl rfl ?_
  obtain ⟨c34, h34, e34, E⟩ := qbn_el E
  refine qt_callVi (b2 := 0) [] (c_X12_sign h e34) cv_RX12_246 (wl_119 h) rfl rfl rfl (Nat.le_of_ble_eq_true rfl) (Nat.le_of_ble_eq_true rfl) dX12_term_34 ?_
  refine qt_bipush dX12_term_37 cb_42 ?_
  refine qt_icmp_ne 47 dX12_term_39 (by decide) E (fun E => ?_) (fun E => ?_)
  · refine qt_bipush dX12_term_47 cb_14 ?_
    exact qt_sub _ [0] rfl ((s_X12_term_b49 (14 : Int32) h34 E G))
  · refine qt_bipush dX12_term_42 cb_13 ?_
    refine qt_goto 49 dX12_term_44 (by decide) ?_
    exact qt_sub _ [0] rfl ((s_X12_term_b49 (13 : Int32) h34 E G))
noncomputable def f_X12_term_b8 (h : qa_M) : Option ((qa_M) ⊕ qa_M) :=
  if (h.1 119 22) = 0 then (
   qbn (m_X12_sign h) (fun (c16 : Int32) (h16 : qa_M) =>
   if c16 = (42 : Int32) then (
    f_X12_term_b33 h16)
   else (
    qbn (m_X12_sign h16) (fun (c25 : Int32) (h25 : qa_M) =>
    if c25 = (47 : Int32) then (
     f_X12_term_b33 h25)
    else (
     qup (some h25))))))
  else (
   qup (some h))
set_option maxRecDepth 20000 in
theorem s_X12_term_b8 {l : Launch} {g : qa_G} {d : Nat} {rz : Option Value} {hz : qa_M} (h : qa_M) {z : ((qa_M) ⊕ qa_M)} (E : f_X12_term_b8 h = some z) (G : (Sum.elim (fun (sz : qa_M) => qt_At l g (yX12_term, cX12_term, 2, none) (d + 6) 0 0 8 [(0, .ref (g.1 + 119))] [] sz rz hz) (qg_v rz hz)) z) : qt_At l g (yX12_term, cX12_term, 2, none) (d + 6) 0 0 8 [(0, .ref (g.1 + 119))] [] h rz hz := by
  unfold f_X12_term_b8 at E
  refine qt_aload_n 0 dX12_term_8 rfl rfl ?_
  refine qt_getI (wl_119 h) fe_RX12_240 rfl dX12_term_9 ?_
  refine qt_if_ne 77 dX12_term_12 (by decide) E (fun E => ?_) (fun E => ?_)
  · obtain ⟨z0_, E, G⟩ := qup_g E G
    exact qt_vreturn rfl (Nat.le_of_ble_eq_true rfl) dX12_term_77 E G
  · refine qt_aload_n 0 dX12_term_15 rfl rfl ?_
    obtain ⟨c16, h16, e16, E⟩ := qbn_el E
    refine qt_callVi (b2 := 0) [] (c_X12_sign h e16) cv_RX12_246 (wl_119 h) rfl rfl rfl (Nat.le_of_ble_eq_true rfl) (Nat.le_of_ble_eq_true rfl) dX12_term_16 ?_
    refine qt_bipush dX12_term_19 cb_42 ?_
    refine qt_icmp_eq 33 dX12_term_21 (by decide) E (fun E => ?_) (fun E => ?_)
    · exact qt_sub _ [0] rfl ((s_X12_term_b33 h16 E G))
    · refine qt_aload_n 0 dX12_term_24 rfl rfl ?_
      obtain ⟨c25, h25, e25, E⟩ := qbn_el E
      refine qt_callVi (b2 := 0) [] (c_X12_sign h16 e25) cv_RX12_246 (wl_119 h16) rfl rfl rfl (Nat.le_of_ble_eq_true rfl) (Nat.le_of_ble_eq_true rfl) dX12_term_25 ?_
      refine qt_bipush dX12_term_28 cb_47 ?_
      refine qt_icmp_ne 77 dX12_term_30 (by decide) E (fun E => ?_) (fun E => ?_)
      · obtain ⟨z0_, E, G⟩ := qup_g E G
        exact qt_vreturn rfl (Nat.le_of_ble_eq_true rfl) dX12_term_77 E G
      · exact qt_sub _ [0] rfl ((s_X12_term_b33 h25 E G))
noncomputable def f_X12_term_b8_loop (h : qa_M) : Option qa_M := qlp (fun sz : qa_M => f_X12_term_b8 sz) h
theorem s_X12_term_b8_loop {l : Launch} {g : qa_G} {d : Nat} {rz : Option Value} {hz : qa_M} (h : qa_M) {z : qa_M} (E : f_X12_term_b8_loop h = some z) (G : (qg_v rz hz) z) : qt_At l g (yX12_term, cX12_term, 2, none) (d + 6) 0 0 8 [(0, .ref (g.1 + 119))] [] h rz hz :=
  qlp_ind (fun sz : qa_M => qt_At l g (yX12_term, cX12_term, 2, none) (d + 6) 0 0 8 [(0, .ref (g.1 + 119))] [] sz rz hz) (fun sz E => s_X12_term_b8 sz E G) (fun sz sz2 E ih => s_X12_term_b8 sz E ih) h E
noncomputable def m_X12_term (h : qa_M) : Option qa_M :=
  qbv (m_X12_value h) (fun h1 : qa_M =>
  qbv (m_X12_blanks h1) (fun h5 : qa_M =>
  f_X12_term_b8_loop h5))
set_option maxRecDepth 20000 in
theorem c_X12_term {l : Launch} {g : qa_G} {d : Nat} (h : qa_M) {h1 : qa_M} (E : m_X12_term h = some h1) : qt_Met l g (yX12_term, cX12_term, 2, none) (d + 6) 0 [.ref (g.1 + 119)] h none h1 := by
  refine qt_Met.of (plainFor_of_name (by decide)) (Nat.le_of_ble_eq_true rfl) ?_
  have G : qg_v none h1 (h1) := ⟨rfl, rfl⟩
  unfold m_X12_term at E
  refine qt_aload_n 0 dX12_term_0 rfl rfl ?_
  obtain ⟨h1, e1, E⟩ := qbv_el E
  refine qt_callVv (b2 := 0) [] (c_X12_value h e1) cv_RX12_300 (wl_119 h) rfl rfl rfl (Nat.le_of_ble_eq_true rfl) (Nat.le_of_ble_eq_true rfl) dX12_term_1 ?_
  refine qt_aload_n 0 dX12_term_4 rfl rfl ?_
  obtain ⟨h5, e5, E⟩ := qbv_el E
  refine qt_callVv (b2 := 0) [] (c_X12_blanks h1 e5) cv_RX12_263 (wl_119 h1) rfl rfl rfl (Nat.le_of_ble_eq_true rfl) (Nat.le_of_ble_eq_true rfl) dX12_term_5 ?_
  exact qt_sub _ [0] rfl ((s_X12_term_b8_loop h5 E G))
noncomputable def f_X12_sum_b43 (s0 : Int32) (h : qa_M) : Option ((qa_M) ⊕ qa_M) :=
  qbd s0 (fun v43 : Int32 =>
  qbd (qw_I h 119 21 ((h.1 119 21) + (1 : Int32))) (fun h51 : qa_M =>
  qbv (m_X12_term h51) (fun h55 : qa_M =>
  qbv (m_X12_entry v43 (0 : Int32) h55) (fun h61 : qa_M =>
  some (.inl h61)))))
set_option maxRecDepth 20000 in
theorem s_X12_sum_b43 {l : Launch} {g : qa_G} {d : Nat} {rz : Option Value} {hz : qa_M} (s0 : Int32) (h : qa_M) {z : ((qa_M) ⊕ qa_M)} (E : f_X12_sum_b43 s0 h = some z) (G : (Sum.elim (fun (sz : qa_M) => qt_At l g (yX12_sum, cX12_sum, 2, none) (d + 7) 0 0 4 [(0, .ref (g.1 + 119))] [] sz rz hz) (qg_v rz hz)) z) : qt_At l g (yX12_sum, cX12_sum, 2, none) (d + 7) 0 0 43 [(0, .ref (g.1 + 119))] [.int s0] h rz hz := by
  unfold f_X12_sum_b43 at E
  refine qt_istore_n (fun v43 => [(1, .int v43), (0, .ref (g.1 + 119))]) dX12_sum_43 rfl (Nat.le_of_ble_eq_true rfl) (fun _ => rfl) E (fun v43 E => ?_)
  refine qt_aload_n 1 dX12_sum_44 rfl rfl ?_
  refine qt_dup dX12_sum_45 rfl ?_
  refine qt_getI (wl_119 h) fe_RX12_243 rfl dX12_sum_46 ?_
  refine qt_iconst dX12_sum_49 ci_1 ?_
  refine qt_iadd dX12_sum_50 ?_
  refine qt_putI (wl_119 h) fd_RX12_243 rfl rfl rfl dX12_sum_51 E (fun h51 E => ?_)
  refine qt_aload_n 1 dX12_sum_54 rfl rfl ?_
  obtain ⟨h55, e55, E⟩ := qbv_el E
  refine qt_callVv (b2 := 0) [] (c_X12_term h51 e55) cv_RX12_303 (wl_119 h51) rfl rfl rfl (Nat.le_of_ble_eq_true rfl) (Nat.le_of_ble_eq_true rfl) dX12_sum_55 ?_
  refine qt_aload_n 1 dX12_sum_58 rfl rfl ?_
  refine qt_iload_n 0 dX12_sum_59 rfl rfl ?_
  refine qt_iconst dX12_sum_60 ci_0 ?_
  obtain ⟨h61, e61, E⟩ := qbv_el E
  refine qt_callVv (b2 := 0) [.int v43, .int (0 : Int32)] (c_X12_entry v43 (0 : Int32) h55 e61) cv_RX12_293 (wl_119 h55) rfl rfl rfl (Nat.le_of_ble_eq_true rfl) (Nat.le_of_ble_eq_true rfl) dX12_sum_61 ?_
  refine qt_goto 4 dX12_sum_64 (by decide) ?_
  cases E
  exact qt_sub _ [1] rfl (G)
noncomputable def f_X12_sum_b29 (h : qa_M) : Option ((qa_M) ⊕ qa_M) :=
  qbn (m_X12_sign h) (fun (c30 : Int32) (h30 : qa_M) =>
  if c30 = (43 : Int32) then (
   f_X12_sum_b43 (2 : Int32) h30)
  else (
   f_X12_sum_b43 (3 : Int32) h30))
set_option maxRecDepth 20000 in
theorem s_X12_sum_b29 {l : Launch} {g : qa_G} {d : Nat} {rz : Option Value} {hz : qa_M} (h : qa_M) {z : ((qa_M) ⊕ qa_M)} (E : f_X12_sum_b29 h = some z) (G : (Sum.elim (fun (sz : qa_M) => qt_At l g (yX12_sum, cX12_sum, 2, none) (d + 7) 0 0 4 [(0, .ref (g.1 + 119))] [] sz rz hz) (qg_v rz hz)) z) : qt_At l g (yX12_sum, cX12_sum, 2, none) (d + 7) 0 0 29 [(0, .ref (g.1 + 119))] [] h rz hz := by
  unfold f_X12_sum_b29 at E
  refine qt_aload_n 0 dX12_sum_29 rfl rfl ?_
  obtain ⟨c30, h30, e30, E⟩ := qbn_el E
  refine qt_callVi (b2 := 0) [] (c_X12_sign h e30) cv_RX12_246 (wl_119 h) rfl rfl rfl (Nat.le_of_ble_eq_true rfl) (Nat.le_of_ble_eq_true rfl) dX12_sum_30 ?_
  refine qt_bipush dX12_sum_33 cb_43 ?_
  refine qt_icmp_ne 42 dX12_sum_35 (by decide) E (fun E => ?_) (fun E => ?_)
  · refine qt_iconst dX12_sum_42 ci_3 ?_
    exact qt_sub _ [0] rfl ((s_X12_sum_b43 (3 : Int32) h30 E G))
  · refine qt_iconst dX12_sum_38 ci_2 ?_
    refine qt_goto 43 dX12_sum_39 (by decide) ?_
    exact qt_sub _ [0] rfl ((s_X12_sum_b43 (2 : Int32) h30 E G))
noncomputable def f_X12_sum_b4 (h : qa_M) : Option ((qa_M) ⊕ qa_M) :=
  if (h.1 119 22) = 0 then (
   qbn (m_X12_sign h) (fun (c12 : Int32) (h12 : qa_M) =>
   if c12 = (43 : Int32) then (
    f_X12_sum_b29 h12)
   else (
    qbn (m_X12_sign h12) (fun (c21 : Int32) (h21 : qa_M) =>
    if c21 = (45 : Int32) then (
     f_X12_sum_b29 h21)
    else (
     qup (some h21))))))
  else (
   qup (some h))
set_option maxRecDepth 20000 in
theorem s_X12_sum_b4 {l : Launch} {g : qa_G} {d : Nat} {rz : Option Value} {hz : qa_M} (h : qa_M) {z : ((qa_M) ⊕ qa_M)} (E : f_X12_sum_b4 h = some z) (G : (Sum.elim (fun (sz : qa_M) => qt_At l g (yX12_sum, cX12_sum, 2, none) (d + 7) 0 0 4 [(0, .ref (g.1 + 119))] [] sz rz hz) (qg_v rz hz)) z) : qt_At l g (yX12_sum, cX12_sum, 2, none) (d + 7) 0 0 4 [(0, .ref (g.1 + 119))] [] h rz hz := by
  unfold f_X12_sum_b4 at E
  refine qt_aload_n 0 dX12_sum_4 rfl rfl ?_
  refine qt_getI (wl_119 h) fe_RX12_240 rfl dX12_sum_5 ?_
  refine qt_if_ne 67 dX12_sum_8 (by decide) E (fun E => ?_) (fun E => ?_)
  · obtain ⟨z0_, E, G⟩ := qup_g E G
    exact qt_vreturn rfl (Nat.le_of_ble_eq_true rfl) dX12_sum_67 E G
  · refine qt_aload_n 0 dX12_sum_11 rfl rfl ?_
    obtain ⟨c12, h12, e12, E⟩ := qbn_el E
    refine qt_callVi (b2 := 0) [] (c_X12_sign h e12) cv_RX12_246 (wl_119 h) rfl rfl rfl (Nat.le_of_ble_eq_true rfl) (Nat.le_of_ble_eq_true rfl) dX12_sum_12 ?_
    refine qt_bipush dX12_sum_15 cb_43 ?_
    refine qt_icmp_eq 29 dX12_sum_17 (by decide) E (fun E => ?_) (fun E => ?_)
    · exact qt_sub _ [0] rfl ((s_X12_sum_b29 h12 E G))
    · refine qt_aload_n 0 dX12_sum_20 rfl rfl ?_
      obtain ⟨c21, h21, e21, E⟩ := qbn_el E
      refine qt_callVi (b2 := 0) [] (c_X12_sign h12 e21) cv_RX12_246 (wl_119 h12) rfl rfl rfl (Nat.le_of_ble_eq_true rfl) (Nat.le_of_ble_eq_true rfl) dX12_sum_21 ?_
      refine qt_bipush dX12_sum_24 cb_45 ?_
      refine qt_icmp_ne 67 dX12_sum_26 (by decide) E (fun E => ?_) (fun E => ?_)
      · obtain ⟨z0_, E, G⟩ := qup_g E G
        exact qt_vreturn rfl (Nat.le_of_ble_eq_true rfl) dX12_sum_67 E G
      · exact qt_sub _ [0] rfl ((s_X12_sum_b29 h21 E G))
noncomputable def f_X12_sum_b4_loop (h : qa_M) : Option qa_M := qlp (fun sz : qa_M => f_X12_sum_b4 sz) h
theorem s_X12_sum_b4_loop {l : Launch} {g : qa_G} {d : Nat} {rz : Option Value} {hz : qa_M} (h : qa_M) {z : qa_M} (E : f_X12_sum_b4_loop h = some z) (G : (qg_v rz hz) z) : qt_At l g (yX12_sum, cX12_sum, 2, none) (d + 7) 0 0 4 [(0, .ref (g.1 + 119))] [] h rz hz :=
  qlp_ind (fun sz : qa_M => qt_At l g (yX12_sum, cX12_sum, 2, none) (d + 7) 0 0 4 [(0, .ref (g.1 + 119))] [] sz rz hz) (fun sz E => s_X12_sum_b4 sz E G) (fun sz sz2 E ih => s_X12_sum_b4 sz E ih) h E
noncomputable def m_X12_sum (h : qa_M) : Option qa_M :=
  qbv (m_X12_term h) (fun h1 : qa_M =>
  f_X12_sum_b4_loop h1)
set_option maxRecDepth 20000 in
theorem c_X12_sum {l : Launch} {g : qa_G} {d : Nat} (h : qa_M) {h1 : qa_M} (E : m_X12_sum h = some h1) : qt_Met l g (yX12_sum, cX12_sum, 2, none) (d + 7) 0 [.ref (g.1 + 119)] h none h1 := by
  refine qt_Met.of (plainFor_of_name (by decide)) (Nat.le_of_ble_eq_true rfl) ?_
  have G : qg_v none h1 (h1) := ⟨rfl, rfl⟩
  unfold m_X12_sum at E
  refine qt_aload_n 0 dX12_sum_0 rfl rfl ?_
  obtain ⟨h1, e1, E⟩ := qbv_el E
  refine qt_callVv (b2 := 0) [] (c_X12_term h e1) cv_RX12_303 (wl_119 h) rfl rfl rfl (Nat.le_of_ble_eq_true rfl) (Nat.le_of_ble_eq_true rfl) dX12_sum_1 ?_
  exact qt_sub _ [0] rfl ((s_X12_sum_b4_loop h1 E G))
noncomputable def f_X12_compared_b139 (s1 : Int32) (h : qa_M) : Option qa_M :=
  qbv (m_X12_entry s1 (0 : Int32) h) (fun h140 : qa_M =>
  some h140)
set_option maxRecDepth 20000 in
theorem s_X12_compared_b139 {l : Launch} {g : qa_G} {d : Nat} {rz : Option Value} {hz : qa_M} (s1 : Int32) (h : qa_M) {z : qa_M} (E : f_X12_compared_b139 s1 h = some z) (G : (qg_v rz hz) z) : qt_At l g (yX12_compared, cX12_compared, 3, none) (d + 8) 0 0 139 [] [.int s1, .ref (g.1 + 119)] h rz hz := by
  unfold f_X12_compared_b139 at E
  refine qt_iconst dX12_compared_139 ci_0 ?_
  obtain ⟨h140, e140, E⟩ := qbv_el E
  refine qt_callVv (b2 := 0) [.int s1, .int (0 : Int32)] (c_X12_entry s1 (0 : Int32) h e140) cv_RX12_293 (wl_119 h) rfl rfl rfl (Nat.le_of_ble_eq_true rfl) (Nat.le_of_ble_eq_true rfl) dX12_compared_140 ?_
  exact qt_vreturn rfl (Nat.le_of_ble_eq_true rfl) dX12_compared_143 E G
noncomputable def f_X12_compared_b90 (x1 : Int32) (x2 : Int32) (s1 : Int32) (s2 : Int32) (h : qa_M) : Option qa_M :=
  qbd (qw_I h 119 21 (s1 + s2)) (fun h91 : qa_M =>
  qbv (m_X12_sum h91) (fun h95 : qa_M =>
  if x1 = (61 : Int32) then (
   f_X12_compared_b139 (6 : Int32) h95)
  else (
   if x1 = (60 : Int32) then (
    if x2 = 0 then (
     f_X12_compared_b139 (4 : Int32) h95)
    else (
     f_X12_compared_b139 (5 : Int32) h95))
   else (
    if x2 = 0 then (
     f_X12_compared_b139 (8 : Int32) h95)
    else (
     f_X12_compared_b139 (7 : Int32) h95)))))
set_option maxRecDepth 20000 in
theorem s_X12_compared_b90 {l : Launch} {g : qa_G} {d : Nat} {rz : Option Value} {hz : qa_M} (x1 : Int32) (x2 : Int32) (s1 : Int32) (s2 : Int32) (h : qa_M) {z : qa_M} (E : f_X12_compared_b90 x1 x2 s1 s2 h = some z) (G : (qg_v rz hz) z) : qt_At l g (yX12_compared, cX12_compared, 3, none) (d + 8) 0 0 90 [(0, .ref (g.1 + 119)), (1, .int x1), (2, .int x2)] [.int s2, .int s1, .ref (g.1 + 119)] h rz hz := by
  unfold f_X12_compared_b90 at E
  refine qt_iadd dX12_compared_90 ?_
  refine qt_putI (wl_119 h) fd_RX12_243 rfl rfl rfl dX12_compared_91 E (fun h91 E => ?_)
  refine qt_aload_n 0 dX12_compared_94 rfl rfl ?_
  obtain ⟨h95, e95, E⟩ := qbv_el E
  refine qt_callVv (b2 := 0) [] (c_X12_sum h91 e95) cv_RX12_306 (wl_119 h91) rfl rfl rfl (Nat.le_of_ble_eq_true rfl) (Nat.le_of_ble_eq_true rfl) dX12_compared_95 ?_
  refine qt_aload_n 0 dX12_compared_98 rfl rfl ?_
  refine qt_iload_n 1 dX12_compared_99 rfl rfl ?_
  refine qt_bipush dX12_compared_100 cb_61 ?_
  refine qt_icmp_ne 110 dX12_compared_102 (by decide) E (fun E => ?_) (fun E => ?_)
  · refine qt_iload_n 1 dX12_compared_110 rfl rfl ?_
    refine qt_bipush dX12_compared_111 cb_60 ?_
    refine qt_icmp_ne 128 dX12_compared_113 (by decide) E (fun E => ?_) (fun E => ?_)
    · refine qt_iload_n 2 dX12_compared_128 rfl rfl ?_
      refine qt_if_eq 137 dX12_compared_129 (by decide) E (fun E => ?_) (fun E => ?_)
      · refine qt_bipush dX12_compared_137 cb_8 ?_
        exact qt_sub _ [] rfl ((s_X12_compared_b139 (8 : Int32) h95 E G))
      · refine qt_bipush dX12_compared_132 cb_7 ?_
        refine qt_goto 139 dX12_compared_134 (by decide) ?_
        exact qt_sub _ [] rfl ((s_X12_compared_b139 (7 : Int32) h95 E G))
    · refine qt_iload_n 2 dX12_compared_116 rfl rfl ?_
      refine qt_if_eq 124 dX12_compared_117 (by decide) E (fun E => ?_) (fun E => ?_)
      · refine qt_iconst dX12_compared_124 ci_4 ?_
        refine qt_goto 139 dX12_compared_125 (by decide) ?_
        exact qt_sub _ [] rfl ((s_X12_compared_b139 (4 : Int32) h95 E G))
      · refine qt_iconst dX12_compared_120 ci_5 ?_
        refine qt_goto 139 dX12_compared_121 (by decide) ?_
        exact qt_sub _ [] rfl ((s_X12_compared_b139 (5 : Int32) h95 E G))
  · refine qt_bipush dX12_compared_105 cb_6 ?_
    refine qt_goto 139 dX12_compared_107 (by decide) ?_
    exact qt_sub _ [] rfl ((s_X12_compared_b139 (6 : Int32) h95 E G))
noncomputable def f_X12_compared_b75 (x1 : Int32) (s0 : Int32) (h : qa_M) : Option qa_M :=
  qbd s0 (fun v75 : Int32 =>
  if v75 = 0 then (
   f_X12_compared_b90 x1 v75 (h.1 119 21) (0 : Int32) h)
  else (
   f_X12_compared_b90 x1 v75 (h.1 119 21) (1 : Int32) h))
set_option maxRecDepth 20000 in
theorem s_X12_compared_b75 {l : Launch} {g : qa_G} {d : Nat} {rz : Option Value} {hz : qa_M} (x1 : Int32) (s0 : Int32) (h : qa_M) {z : qa_M} (E : f_X12_compared_b75 x1 s0 h = some z) (G : (qg_v rz hz) z) : qt_At l g (yX12_compared, cX12_compared, 3, none) (d + 8) 0 0 75 [(0, .ref (g.1 + 119)), (1, .int x1)] [.int s0] h rz hz := by
  unfold f_X12_compared_b75 at E
  refine qt_istore_n (fun v75 => [(2, .int v75), (0, .ref (g.1 + 119)), (1, .int x1)]) dX12_compared_75 rfl (Nat.le_of_ble_eq_true rfl) (fun _ => rfl) E (fun v75 E => ?_)
  refine qt_aload_n 1 dX12_compared_76 rfl rfl ?_
  refine qt_dup dX12_compared_77 rfl ?_
  refine qt_getI (wl_119 h) fe_RX12_243 rfl dX12_compared_78 ?_
  refine qt_iload_n 0 dX12_compared_81 rfl rfl ?_
  refine qt_if_eq 89 dX12_compared_82 (by decide) E (fun E => ?_) (fun E => ?_)
  · refine qt_iconst dX12_compared_89 ci_0 ?_
    exact qt_sub _ [1, 2, 0] rfl ((s_X12_compared_b90 x1 v75 (h.1 119 21) (0 : Int32) h E G))
  · refine qt_iconst dX12_compared_85 ci_1 ?_
    refine qt_goto 90 dX12_compared_86 (by decide) ?_
    exact qt_sub _ [1, 2, 0] rfl ((s_X12_compared_b90 x1 v75 (h.1 119 21) (1 : Int32) h E G))
noncomputable def f_X12_compared_b74 (x1 : Int32) (h : qa_M) : Option qa_M :=
  f_X12_compared_b75 x1 (0 : Int32) h
set_option maxRecDepth 20000 in
theorem s_X12_compared_b74 {l : Launch} {g : qa_G} {d : Nat} {rz : Option Value} {hz : qa_M} (x1 : Int32) (h : qa_M) {z : qa_M} (E : f_X12_compared_b74 x1 h = some z) (G : (qg_v rz hz) z) : qt_At l g (yX12_compared, cX12_compared, 3, none) (d + 8) 0 0 74 [(0, .ref (g.1 + 119)), (1, .int x1)] [] h rz hz := by
  unfold f_X12_compared_b74 at E
  refine qt_iconst dX12_compared_74 ci_0 ?_
  exact qt_sub _ [0, 1] rfl ((s_X12_compared_b75 x1 (0 : Int32) h E G))
noncomputable def f_X12_compared_b37 (x1 : Int32) (h : qa_M) : Option qa_M :=
  qbv (m_X12_isCounted (h.1 119 21) h) (fun h42 : qa_M =>
  qbd (qw_I h42 119 21 ((h42.1 119 21) + (1 : Int32))) (fun h52 : qa_M =>
  if x1 = (61 : Int32) then (
   f_X12_compared_b74 x1 h52)
  else (
   qbn (m_X12_sign h52) (fun (c62 : Int32) (h62 : qa_M) =>
   if c62 = (61 : Int32) then (
    f_X12_compared_b75 x1 (1 : Int32) h62)
   else (
    f_X12_compared_b74 x1 h62)))))
set_option maxRecDepth 20000 in
theorem s_X12_compared_b37 {l : Launch} {g : qa_G} {d : Nat} {rz : Option Value} {hz : qa_M} (x1 : Int32) (h : qa_M) {z : qa_M} (E : f_X12_compared_b37 x1 h = some z) (G : (qg_v rz hz) z) : qt_At l g (yX12_compared, cX12_compared, 3, none) (d + 8) 0 0 37 [(0, .ref (g.1 + 119)), (1, .int x1)] [] h rz hz := by
  unfold f_X12_compared_b37 at E
  refine qt_aload_n 0 dX12_compared_37 rfl rfl ?_
  refine qt_aload_n 0 dX12_compared_38 rfl rfl ?_
  refine qt_getI (wl_119 h) fe_RX12_243 rfl dX12_compared_39 ?_
  obtain ⟨h42, e42, E⟩ := qbv_el E
  refine qt_callVv (b2 := 0) [.int (h.1 119 21)] (c_X12_isCounted (h.1 119 21) h e42) cv_RX12_290 (wl_119 h) rfl rfl rfl (Nat.le_of_ble_eq_true rfl) (Nat.le_of_ble_eq_true rfl) dX12_compared_42 ?_
  refine qt_aload_n 0 dX12_compared_45 rfl rfl ?_
  refine qt_dup dX12_compared_46 rfl ?_
  refine qt_getI (wl_119 h42) fe_RX12_243 rfl dX12_compared_47 ?_
  refine qt_iconst dX12_compared_50 ci_1 ?_
  refine qt_iadd dX12_compared_51 ?_
  refine qt_putI (wl_119 h42) fd_RX12_243 rfl rfl rfl dX12_compared_52 E (fun h52 E => ?_)
  refine qt_iload_n 1 dX12_compared_55 rfl rfl ?_
  refine qt_bipush dX12_compared_56 cb_61 ?_
  refine qt_icmp_eq 74 dX12_compared_58 (by decide) E (fun E => ?_) (fun E => ?_)
  · exact qt_sub _ [0, 1] rfl ((s_X12_compared_b74 x1 h52 E G))
  · refine qt_aload_n 0 dX12_compared_61 rfl rfl ?_
    obtain ⟨c62, h62, e62, E⟩ := qbn_el E
    refine qt_callVi (b2 := 0) [] (c_X12_sign h52 e62) cv_RX12_246 (wl_119 h52) rfl rfl rfl (Nat.le_of_ble_eq_true rfl) (Nat.le_of_ble_eq_true rfl) dX12_compared_62 ?_
    refine qt_bipush dX12_compared_65 cb_61 ?_
    refine qt_icmp_ne 74 dX12_compared_67 (by decide) E (fun E => ?_) (fun E => ?_)
    · exact qt_sub _ [0, 1] rfl ((s_X12_compared_b74 x1 h62 E G))
    · refine qt_iconst dX12_compared_70 ci_1 ?_
      refine qt_goto 75 dX12_compared_71 (by decide) ?_
      exact qt_sub _ [0, 1] rfl ((s_X12_compared_b75 x1 (1 : Int32) h62 E G))
noncomputable def m_X12_compared (h : qa_M) : Option qa_M :=
  qbv (m_X12_sum h) (fun h1 : qa_M =>
  qbn (m_X12_sign h1) (fun (c5 : Int32) (h5 : qa_M) =>
  qbd c5 (fun v8 : Int32 =>
  if v8 = (60 : Int32) then (
   f_X12_compared_b37 v8 h5)
  else (
   if v8 = (61 : Int32) then (
    f_X12_compared_b37 v8 h5)
   else (
    if v8 = (62 : Int32) then (
     f_X12_compared_b37 v8 h5)
    else (
     qbv (m_X12_fails (0 : Int32) (h5.1 119 21) h5) (fun h33 : qa_M =>
     some h33)))))))
set_option maxRecDepth 20000 in
theorem c_X12_compared {l : Launch} {g : qa_G} {d : Nat} (h : qa_M) {h1 : qa_M} (E : m_X12_compared h = some h1) : qt_Met l g (yX12_compared, cX12_compared, 3, none) (d + 8) 0 [.ref (g.1 + 119)] h none h1 := by
  refine qt_Met.of (plainFor_of_name (by decide)) (Nat.le_of_ble_eq_true rfl) ?_
  have G : qg_v none h1 (h1) := ⟨rfl, rfl⟩
  unfold m_X12_compared at E
  refine qt_aload_n 0 dX12_compared_0 rfl rfl ?_
  obtain ⟨h1, e1, E⟩ := qbv_el E
  refine qt_callVv (b2 := 0) [] (c_X12_sum h e1) cv_RX12_306 (wl_119 h) rfl rfl rfl (Nat.le_of_ble_eq_true rfl) (Nat.le_of_ble_eq_true rfl) dX12_compared_1 ?_
  refine qt_aload_n 0 dX12_compared_4 rfl rfl ?_
  obtain ⟨c5, h5, e5, E⟩ := qbn_el E
  refine qt_callVi (b2 := 0) [] (c_X12_sign h1 e5) cv_RX12_246 (wl_119 h1) rfl rfl rfl (Nat.le_of_ble_eq_true rfl) (Nat.le_of_ble_eq_true rfl) dX12_compared_5 ?_
  refine qt_istore_n (fun v8 => [(1, .int v8), (0, .ref (g.1 + 119))]) dX12_compared_8 rfl (Nat.le_of_ble_eq_true rfl) (fun _ => rfl) E (fun v8 E => ?_)
  refine qt_iload_n 0 dX12_compared_9 rfl rfl ?_
  refine qt_bipush dX12_compared_10 cb_60 ?_
  refine qt_icmp_eq 37 dX12_compared_12 (by decide) E (fun E => ?_) (fun E => ?_)
  · exact qt_sub _ [1, 0] rfl ((s_X12_compared_b37 v8 h5 E G))
  · refine qt_iload_n 0 dX12_compared_15 rfl rfl ?_
    refine qt_bipush dX12_compared_16 cb_61 ?_
    refine qt_icmp_eq 37 dX12_compared_18 (by decide) E (fun E => ?_) (fun E => ?_)
    · exact qt_sub _ [1, 0] rfl ((s_X12_compared_b37 v8 h5 E G))
    · refine qt_iload_n 0 dX12_compared_21 rfl rfl ?_
      refine qt_bipush dX12_compared_22 cb_62 ?_
      refine qt_icmp_eq 37 dX12_compared_24 (by decide) E (fun E => ?_) (fun E => ?_)
      · exact qt_sub _ [1, 0] rfl ((s_X12_compared_b37 v8 h5 E G))
      · refine qt_aload_n 1 dX12_compared_27 rfl rfl ?_
        refine qt_iconst dX12_compared_28 ci_0 ?_
        refine qt_aload_n 1 dX12_compared_29 rfl rfl ?_
        refine qt_getI (wl_119 h5) fe_RX12_243 rfl dX12_compared_30 ?_
        obtain ⟨h33, e33, E⟩ := qbv_el E
        refine qt_callVv (b2 := 0) [.int (0 : Int32), .int (h5.1 119 21)] (c_X12_fails (0 : Int32) (h5.1 119 21) h5 e33) cv_RX12_279 (wl_119 h5) rfl rfl rfl (Nat.le_of_ble_eq_true rfl) (Nat.le_of_ble_eq_true rfl) dX12_compared_33 ?_
        exact qt_vreturn rfl (Nat.le_of_ble_eq_true rfl) dX12_compared_36 E G
noncomputable def m_X12_fact (h : qa_M) : Option (Int32 × qa_M) :=
  qbv (m_X12_blanks h) (fun h1 : qa_M =>
  qbn (m_X12_stood 2 h1) (fun (c8 : Int32) (h8 : qa_M) =>
  if c8 = 0 then (
   qbn (m_X12_sign h8) (fun (c33 : Int32) (h33 : qa_M) =>
   if c33 = (91 : Int32) then (
    qbv (m_X12_opens (12 : Int32) h33) (fun h44 : qa_M =>
    qbd (qw_I h44 119 21 ((h44.1 119 21) + (1 : Int32))) (fun h54 : qa_M =>
    some ((0 : Int32), h54))))
   else (
    qbv (m_X12_compared h33) (fun h60 : qa_M =>
    some ((1 : Int32), h60)))))
  else (
   qbv (m_X12_opens (9 : Int32) h8) (fun h17 : qa_M =>
   qbd (qw_I h17 119 21 ((h17.1 119 21) + (3 : Int32))) (fun h27 : qa_M =>
   some ((0 : Int32), h27))))))
set_option maxRecDepth 20000 in
theorem c_X12_fact {l : Launch} {g : qa_G} {d : Nat} (h : qa_M) {c : Int32} {h1 : qa_M} (E : m_X12_fact h = some (c, h1)) : qt_Met l g (yX12_fact, cX12_fact, 1, (some .boolean)) (d + 9) 0 [.ref (g.1 + 119)] h (some (.int c)) h1 := by
  refine qt_Met.of (plainFor_of_name (by decide)) (Nat.le_of_ble_eq_true rfl) ?_
  have G : qg_i (some (.int c)) h1 ((c, h1)) := ⟨rfl, rfl⟩
  unfold m_X12_fact at E
  refine qt_aload_n 0 dX12_fact_0 rfl rfl ?_
  obtain ⟨h1, e1, E⟩ := qbv_el E
  refine qt_callVv (b2 := 0) [] (c_X12_blanks h e1) cv_RX12_263 (wl_119 h) rfl rfl rfl (Nat.le_of_ble_eq_true rfl) (Nat.le_of_ble_eq_true rfl) dX12_fact_1 ?_
  refine qt_aload_n 0 dX12_fact_4 rfl rfl ?_
  refine qt_ldcwS sr_RX12_318 dX12_fact_5 ?_
  obtain ⟨c8, h8, e8, E⟩ := qbn_el E
  refine qt_callVi (b2 := 0) [.ref (g.2.2.2.1 2)] (c_X12_stood 2 h1 (by decide) e8) cv_RX12_266 (wl_119 h1) rfl rfl rfl (Nat.le_of_ble_eq_true rfl) (Nat.le_of_ble_eq_true rfl) dX12_fact_8 ?_
  refine qt_if_eq 32 dX12_fact_11 (by decide) E (fun E => ?_) (fun E => ?_)
  · refine qt_aload_n 0 dX12_fact_32 rfl rfl ?_
    obtain ⟨c33, h33, e33, E⟩ := qbn_el E
    refine qt_callVi (b2 := 0) [] (c_X12_sign h8 e33) cv_RX12_246 (wl_119 h8) rfl rfl rfl (Nat.le_of_ble_eq_true rfl) (Nat.le_of_ble_eq_true rfl) dX12_fact_33 ?_
    refine qt_bipush dX12_fact_36 cb_91 ?_
    refine qt_icmp_ne 59 dX12_fact_38 (by decide) E (fun E => ?_) (fun E => ?_)
    · refine qt_aload_n 0 dX12_fact_59 rfl rfl ?_
      obtain ⟨h60, e60, E⟩ := qbv_el E
      refine qt_callVv (b2 := 0) [] (c_X12_compared h33 e60) cv_RX12_323 (wl_119 h33) rfl rfl rfl (Nat.le_of_ble_eq_true rfl) (Nat.le_of_ble_eq_true rfl) dX12_fact_60 ?_
      refine qt_iconst dX12_fact_63 ci_1 ?_
      exact qt_zreturn rfl (Or.inr rfl) (Nat.le_of_ble_eq_true rfl) dX12_fact_64 E G
    · refine qt_aload_n 0 dX12_fact_41 rfl rfl ?_
      refine qt_bipush dX12_fact_42 cb_12 ?_
      obtain ⟨h44, e44, E⟩ := qbv_el E
      refine qt_callVv (b2 := 0) [.int (12 : Int32)] (c_X12_opens (12 : Int32) h33 e44) cv_RX12_320 (wl_119 h33) rfl rfl rfl (Nat.le_of_ble_eq_true rfl) (Nat.le_of_ble_eq_true rfl) dX12_fact_44 ?_
      refine qt_aload_n 0 dX12_fact_47 rfl rfl ?_
      refine qt_dup dX12_fact_48 rfl ?_
      refine qt_getI (wl_119 h44) fe_RX12_243 rfl dX12_fact_49 ?_
      refine qt_iconst dX12_fact_52 ci_1 ?_
      refine qt_iadd dX12_fact_53 ?_
      refine qt_putI (wl_119 h44) fd_RX12_243 rfl rfl rfl dX12_fact_54 E (fun h54 E => ?_)
      refine qt_iconst dX12_fact_57 ci_0 ?_
      exact qt_zreturn rfl (Or.inl rfl) (Nat.le_of_ble_eq_true rfl) dX12_fact_58 E G
  · refine qt_aload_n 0 dX12_fact_14 rfl rfl ?_
    refine qt_bipush dX12_fact_15 cb_9 ?_
    obtain ⟨h17, e17, E⟩ := qbv_el E
    refine qt_callVv (b2 := 0) [.int (9 : Int32)] (c_X12_opens (9 : Int32) h8 e17) cv_RX12_320 (wl_119 h8) rfl rfl rfl (Nat.le_of_ble_eq_true rfl) (Nat.le_of_ble_eq_true rfl) dX12_fact_17 ?_
    refine qt_aload_n 0 dX12_fact_20 rfl rfl ?_
    refine qt_dup dX12_fact_21 rfl ?_
    refine qt_getI (wl_119 h17) fe_RX12_243 rfl dX12_fact_22 ?_
    refine qt_iconst dX12_fact_25 ci_3 ?_
    refine qt_iadd dX12_fact_26 ?_
    refine qt_putI (wl_119 h17) fd_RX12_243 rfl rfl rfl dX12_fact_27 E (fun h27 E => ?_)
    refine qt_iconst dX12_fact_30 ci_0 ?_
    exact qt_zreturn rfl (Or.inl rfl) (Nat.le_of_ble_eq_true rfl) dX12_fact_31 E G
noncomputable def m_X12_top (h : qa_M) : Option (Int32 × qa_M) :=
  if (h.1 119 28) = 0 then (
   some ((-1 : Int32), h))
  else (
   qck ((h.1 119 28) - (1 : Int32)) 402 (
   some (h.1 148 ((h.1 119 28) - (1 : Int32)).toNatClampNeg, h)))
set_option maxRecDepth 20000 in
theorem c_X12_top {l : Launch} {g : qa_G} {d : Nat} (h : qa_M) {c : Int32} {h1 : qa_M} (E : m_X12_top h = some (c, h1)) : qt_Met l g (yX12_top, cX12_top, 1, (some .int)) d 0 [.ref (g.1 + 119)] h (some (.int c)) h1 := by
  refine qt_Met.of (plainFor_of_name (by decide)) (Nat.le_of_ble_eq_true rfl) ?_
  have G : qg_i (some (.int c)) h1 ((c, h1)) := ⟨rfl, rfl⟩
  unfold m_X12_top at E
  refine qt_aload_n 0 dX12_top_0 rfl rfl ?_
  refine qt_getI (wl_119 h) fe_RX12_309 rfl dX12_top_1 ?_
  refine qt_if_ne 11 dX12_top_4 (by decide) E (fun E => ?_) (fun E => ?_)
  · refine qt_aload_n 0 dX12_top_11 rfl rfl ?_
    refine qt_getS 148 (wl_119 h) fe_RX12_99 rfl dX12_top_12 ?_
    refine qt_aload_n 0 dX12_top_15 rfl rfl ?_
    refine qt_getI (wl_119 h) fe_RX12_309 rfl dX12_top_16 ?_
    refine qt_iconst dX12_top_19 ci_1 ?_
    refine qt_isub dX12_top_20 ?_
    refine qt_iald (wl_148 h) dX12_top_21 E (fun E => ?_)
    exact qt_ireturn rfl (Nat.le_of_ble_eq_true rfl) dX12_top_22 E G
  · refine qt_iconst dX12_top_7 ci_m1 ?_
    refine qt_goto 22 dX12_top_8 (by decide) ?_
    exact qt_ireturn rfl (Nat.le_of_ble_eq_true rfl) dX12_top_22 E G
noncomputable def f_X12_answers_b47 (x1 : Int32) (s1 : Int32) (s2 : Int32) (h : qa_M) : Option ((Int32 × qa_M) ⊕ qa_M) :=
  qbd (qw_I h 119 26 (s1 - s2)) (fun h48 : qa_M =>
  some (.inl (x1, h48)))
set_option maxRecDepth 20000 in
theorem s_X12_answers_b47 {l : Launch} {g : qa_G} {d : Nat} {rz : Option Value} {hz : qa_M} (x1 : Int32) (s1 : Int32) (s2 : Int32) (h : qa_M) {z : ((Int32 × qa_M) ⊕ qa_M)} (E : f_X12_answers_b47 x1 s1 s2 h = some z) (G : (Sum.elim (fun (sz : Int32 × qa_M) => qt_At l g (yX12_answers, cX12_answers, 2, none) (d + 1) 0 0 0 [(0, .ref (g.1 + 119)), (1, .int sz.1)] [] sz.2 rz hz) (qg_v rz hz)) z) : qt_At l g (yX12_answers, cX12_answers, 2, none) (d + 1) 0 0 47 [(0, .ref (g.1 + 119)), (1, .int x1)] [.int s2, .int s1, .ref (g.1 + 119)] h rz hz := by
  unfold f_X12_answers_b47 at E
  refine qt_isub dX12_answers_47 ?_
  refine qt_putI (wl_119 h) fd_RX12_312 rfl rfl rfl dX12_answers_48 E (fun h48 E => ?_)
  refine qt_goto 0 dX12_answers_51 (by decide) ?_
  cases E
  exact qt_sub _ [0, 1] rfl (G)
noncomputable def f_X12_answers_b0 (x1 : Int32) (h : qa_M) : Option ((Int32 × qa_M) ⊕ qa_M) :=
  qbn (m_X12_top h) (fun (c1 : Int32) (h1 : qa_M) =>
  if c1 = x1 then (
   if (h1.1 119 22) = 0 then (
    qbv (m_X12_entry x1 (0 : Int32) h1) (fun h18 : qa_M =>
    qbd (qw_I h18 119 28 ((h18.1 119 28) - (1 : Int32))) (fun h28 : qa_M =>
    if x1 = (9 : Int32) then (
     f_X12_answers_b47 x1 (h28.1 119 26) (1 : Int32) h28)
    else (
     f_X12_answers_b47 x1 (h28.1 119 26) (0 : Int32) h28))))
   else (
    qup (some h1)))
  else (
   qup (some h1)))
set_option maxRecDepth 20000 in
theorem s_X12_answers_b0 {l : Launch} {g : qa_G} {d : Nat} {rz : Option Value} {hz : qa_M} (x1 : Int32) (h : qa_M) {z : ((Int32 × qa_M) ⊕ qa_M)} (E : f_X12_answers_b0 x1 h = some z) (G : (Sum.elim (fun (sz : Int32 × qa_M) => qt_At l g (yX12_answers, cX12_answers, 2, none) (d + 1) 0 0 0 [(0, .ref (g.1 + 119)), (1, .int sz.1)] [] sz.2 rz hz) (qg_v rz hz)) z) : qt_At l g (yX12_answers, cX12_answers, 2, none) (d + 1) 0 0 0 [(0, .ref (g.1 + 119)), (1, .int x1)] [] h rz hz := by
  unfold f_X12_answers_b0 at E
  refine qt_aload_n 0 dX12_answers_0 rfl rfl ?_
  obtain ⟨c1, h1, e1, E⟩ := qbn_el E
  refine qt_callVi (b2 := 0) [] (c_X12_top h e1) cv_RX12_315 (wl_119 h) rfl rfl rfl (Nat.le_of_ble_eq_true rfl) (Nat.le_of_ble_eq_true rfl) dX12_answers_1 ?_
  refine qt_iload_n 1 dX12_answers_4 rfl rfl ?_
  refine qt_icmp_ne 54 dX12_answers_5 (by decide) E (fun E => ?_) (fun E => ?_)
  · obtain ⟨z0_, E, G⟩ := qup_g E G
    exact qt_vreturn rfl (Nat.le_of_ble_eq_true rfl) dX12_answers_54 E G
  · refine qt_aload_n 0 dX12_answers_8 rfl rfl ?_
    refine qt_getI (wl_119 h1) fe_RX12_240 rfl dX12_answers_9 ?_
    refine qt_if_ne 54 dX12_answers_12 (by decide) E (fun E => ?_) (fun E => ?_)
    · obtain ⟨z0_, E, G⟩ := qup_g E G
      exact qt_vreturn rfl (Nat.le_of_ble_eq_true rfl) dX12_answers_54 E G
    · refine qt_aload_n 0 dX12_answers_15 rfl rfl ?_
      refine qt_iload_n 1 dX12_answers_16 rfl rfl ?_
      refine qt_iconst dX12_answers_17 ci_0 ?_
      obtain ⟨h18, e18, E⟩ := qbv_el E
      refine qt_callVv (b2 := 0) [.int x1, .int (0 : Int32)] (c_X12_entry x1 (0 : Int32) h1 e18) cv_RX12_293 (wl_119 h1) rfl rfl rfl (Nat.le_of_ble_eq_true rfl) (Nat.le_of_ble_eq_true rfl) dX12_answers_18 ?_
      refine qt_aload_n 0 dX12_answers_21 rfl rfl ?_
      refine qt_dup dX12_answers_22 rfl ?_
      refine qt_getI (wl_119 h18) fe_RX12_309 rfl dX12_answers_23 ?_
      refine qt_iconst dX12_answers_26 ci_1 ?_
      refine qt_isub dX12_answers_27 ?_
      refine qt_putI (wl_119 h18) fd_RX12_309 rfl rfl rfl dX12_answers_28 E (fun h28 E => ?_)
      refine qt_aload_n 0 dX12_answers_31 rfl rfl ?_
      refine qt_dup dX12_answers_32 rfl ?_
      refine qt_getI (wl_119 h28) fe_RX12_312 rfl dX12_answers_33 ?_
      refine qt_iload_n 1 dX12_answers_36 rfl rfl ?_
      refine qt_bipush dX12_answers_37 cb_9 ?_
      refine qt_icmp_ne 46 dX12_answers_39 (by decide) E (fun E => ?_) (fun E => ?_)
      · refine qt_iconst dX12_answers_46 ci_0 ?_
        exact qt_sub _ [0, 1] rfl ((s_X12_answers_b47 x1 (h28.1 119 26) (0 : Int32) h28 E G))
      · refine qt_iconst dX12_answers_42 ci_1 ?_
        refine qt_goto 47 dX12_answers_43 (by decide) ?_
        exact qt_sub _ [0, 1] rfl ((s_X12_answers_b47 x1 (h28.1 119 26) (1 : Int32) h28 E G))
noncomputable def f_X12_answers_b0_loop (x1 : Int32) (h : qa_M) : Option qa_M := qlp (fun sz : Int32 × qa_M => f_X12_answers_b0 sz.1 sz.2) (x1, h)
theorem s_X12_answers_b0_loop {l : Launch} {g : qa_G} {d : Nat} {rz : Option Value} {hz : qa_M} (x1 : Int32) (h : qa_M) {z : qa_M} (E : f_X12_answers_b0_loop x1 h = some z) (G : (qg_v rz hz) z) : qt_At l g (yX12_answers, cX12_answers, 2, none) (d + 1) 0 0 0 [(0, .ref (g.1 + 119)), (1, .int x1)] [] h rz hz :=
  qlp_ind (fun sz : Int32 × qa_M => qt_At l g (yX12_answers, cX12_answers, 2, none) (d + 1) 0 0 0 [(0, .ref (g.1 + 119)), (1, .int sz.1)] [] sz.2 rz hz) (fun sz E => s_X12_answers_b0 sz.1 sz.2 E G) (fun sz sz2 E ih => s_X12_answers_b0 sz.1 sz.2 E ih) (x1, h) E
noncomputable def m_X12_answers (x1 : Int32) (h : qa_M) : Option qa_M :=
  f_X12_answers_b0_loop x1 h
set_option maxRecDepth 20000 in
theorem c_X12_answers {l : Launch} {g : qa_G} {d : Nat} (x1 : Int32) (h : qa_M) {h1 : qa_M} (E : m_X12_answers x1 h = some h1) : qt_Met l g (yX12_answers, cX12_answers, 2, none) (d + 1) 0 [.ref (g.1 + 119), .int x1] h none h1 := by
  refine qt_Met.of (plainFor_of_name (by decide)) (Nat.le_of_ble_eq_true rfl) ?_
  have G : qg_v none h1 (h1) := ⟨rfl, rfl⟩
  unfold m_X12_answers at E
  exact qt_sub _ [0, 1] rfl ((s_X12_answers_b0_loop x1 h E G))
noncomputable def f_X12_test_b199 (x1 : Int32) (x2 : Int32) (h : qa_M) : Option ((Int32 × Int32 × qa_M) ⊕ qa_M) :=
  some (.inl (x1, x2, h))
set_option maxRecDepth 20000 in
theorem s_X12_test_b199 {l : Launch} {g : qa_G} {d : Nat} {rz : Option Value} {hz : qa_M} (x1 : Int32) (x2 : Int32) (h : qa_M) {z : ((Int32 × Int32 × qa_M) ⊕ qa_M)} (E : f_X12_test_b199 x1 x2 h = some z) (G : (Sum.elim (fun (sz : Int32 × Int32 × qa_M) => qt_At l g (yX12_test, cX12_test, 5, none) (d + 10) 0 0 9 [(0, .ref (g.1 + 119)), (1, .int sz.1), (2, .int sz.2.1)] [] sz.2.2 rz hz) (qg_v rz hz)) z) : qt_At l g (yX12_test, cX12_test, 5, none) (d + 10) 0 0 199 [(0, .ref (g.1 + 119)), (1, .int x1), (2, .int x2)] [] h rz hz := by
  unfold f_X12_test_b199 at E
  refine qt_goto 9 dX12_test_199 (by decide) ?_
  cases E
  exact qt_sub _ [0, 1, 2] rfl (G)
noncomputable def f_X12_test_b122 (x2 : Int32) (s1 : Int32) (s2 : Int32) (h : qa_M) : Option ((Int32 × Int32 × qa_M) ⊕ qa_M) :=
  qbd (qw_I h 119 21 (s1 + s2)) (fun h123 : qa_M =>
  qbd (1 : Int32) (fun v127 : Int32 =>
  f_X12_test_b199 v127 x2 h123))
set_option maxRecDepth 20000 in
theorem s_X12_test_b122 {l : Launch} {g : qa_G} {d : Nat} {rz : Option Value} {hz : qa_M} (x2 : Int32) (s1 : Int32) (s2 : Int32) (h : qa_M) {z : ((Int32 × Int32 × qa_M) ⊕ qa_M)} (E : f_X12_test_b122 x2 s1 s2 h = some z) (G : (Sum.elim (fun (sz : Int32 × Int32 × qa_M) => qt_At l g (yX12_test, cX12_test, 5, none) (d + 10) 0 0 9 [(0, .ref (g.1 + 119)), (1, .int sz.1), (2, .int sz.2.1)] [] sz.2.2 rz hz) (qg_v rz hz)) z) : qt_At l g (yX12_test, cX12_test, 5, none) (d + 10) 0 0 122 [(0, .ref (g.1 + 119)), (2, .int x2)] [.int s2, .int s1, .ref (g.1 + 119)] h rz hz := by
  unfold f_X12_test_b122 at E
  refine qt_iadd dX12_test_122 ?_
  refine qt_putI (wl_119 h) fd_RX12_243 rfl rfl rfl dX12_test_123 E (fun h123 E => ?_)
  refine qt_iconst dX12_test_126 ci_1 ?_
  refine qt_istore_n (fun v127 => [(1, .int v127), (0, .ref (g.1 + 119)), (2, .int x2)]) dX12_test_127 rfl (Nat.le_of_ble_eq_true rfl) (fun _ => rfl) E (fun v127 E => ?_)
  refine qt_goto 199 dX12_test_128 (by decide) ?_
  exact qt_sub _ [1, 0, 2] rfl ((s_X12_test_b199 v127 x2 h123 E G))
noncomputable def f_X12_test_b105 (x2 : Int32) (x3 : Int32) (s1 : Int32) (h : qa_M) : Option ((Int32 × Int32 × qa_M) ⊕ qa_M) :=
  qbv (m_X12_opens s1 h) (fun h105 : qa_M =>
  if x3 = 0 then (
   f_X12_test_b122 x2 (h105.1 119 21) (2 : Int32) h105)
  else (
   f_X12_test_b122 x2 (h105.1 119 21) (3 : Int32) h105))
set_option maxRecDepth 20000 in
theorem s_X12_test_b105 {l : Launch} {g : qa_G} {d : Nat} {rz : Option Value} {hz : qa_M} (x2 : Int32) (x3 : Int32) (s1 : Int32) (h : qa_M) {z : ((Int32 × Int32 × qa_M) ⊕ qa_M)} (E : f_X12_test_b105 x2 x3 s1 h = some z) (G : (Sum.elim (fun (sz : Int32 × Int32 × qa_M) => qt_At l g (yX12_test, cX12_test, 5, none) (d + 10) 0 0 9 [(0, .ref (g.1 + 119)), (1, .int sz.1), (2, .int sz.2.1)] [] sz.2.2 rz hz) (qg_v rz hz)) z) : qt_At l g (yX12_test, cX12_test, 5, none) (d + 10) 0 0 105 [(0, .ref (g.1 + 119)), (2, .int x2), (3, .int x3)] [.int s1, .ref (g.1 + 119)] h rz hz := by
  unfold f_X12_test_b105 at E
  obtain ⟨h105, e105, E⟩ := qbv_el E
  refine qt_callVv (b2 := 0) [.int s1] (c_X12_opens s1 h e105) cv_RX12_320 (wl_119 h) rfl rfl rfl (Nat.le_of_ble_eq_true rfl) (Nat.le_of_ble_eq_true rfl) dX12_test_105 ?_
  refine qt_aload_n 0 dX12_test_108 rfl rfl ?_
  refine qt_dup dX12_test_109 rfl ?_
  refine qt_getI (wl_119 h105) fe_RX12_243 rfl dX12_test_110 ?_
  refine qt_iload_n 2 dX12_test_113 rfl rfl ?_
  refine qt_if_eq 121 dX12_test_114 (by decide) E (fun E => ?_) (fun E => ?_)
  · refine qt_iconst dX12_test_121 ci_2 ?_
    exact qt_sub _ [0, 1] rfl ((s_X12_test_b122 x2 (h105.1 119 21) (2 : Int32) h105 E G))
  · refine qt_iconst dX12_test_117 ci_3 ?_
    refine qt_goto 122 dX12_test_118 (by decide) ?_
    exact qt_sub _ [0, 1] rfl ((s_X12_test_b122 x2 (h105.1 119 21) (3 : Int32) h105 E G))
noncomputable def f_X12_test_b93 (x2 : Int32) (x3 : Int32) (h : qa_M) : Option ((Int32 × Int32 × qa_M) ⊕ qa_M) :=
  if x3 = 0 then (
   f_X12_test_b105 x2 x3 (11 : Int32) h)
  else (
   f_X12_test_b105 x2 x3 (10 : Int32) h)
set_option maxRecDepth 20000 in
theorem s_X12_test_b93 {l : Launch} {g : qa_G} {d : Nat} {rz : Option Value} {hz : qa_M} (x2 : Int32) (x3 : Int32) (h : qa_M) {z : ((Int32 × Int32 × qa_M) ⊕ qa_M)} (E : f_X12_test_b93 x2 x3 h = some z) (G : (Sum.elim (fun (sz : Int32 × Int32 × qa_M) => qt_At l g (yX12_test, cX12_test, 5, none) (d + 10) 0 0 9 [(0, .ref (g.1 + 119)), (1, .int sz.1), (2, .int sz.2.1)] [] sz.2.2 rz hz) (qg_v rz hz)) z) : qt_At l g (yX12_test, cX12_test, 5, none) (d + 10) 0 0 93 [(0, .ref (g.1 + 119)), (2, .int x2), (3, .int x3)] [] h rz hz := by
  unfold f_X12_test_b93 at E
  refine qt_aload_n 0 dX12_test_93 rfl rfl ?_
  refine qt_iload_n 2 dX12_test_94 rfl rfl ?_
  refine qt_if_eq 103 dX12_test_95 (by decide) E (fun E => ?_) (fun E => ?_)
  · refine qt_bipush dX12_test_103 cb_11 ?_
    exact qt_sub _ [0, 1, 2] rfl ((s_X12_test_b105 x2 x3 (11 : Int32) h E G))
  · refine qt_bipush dX12_test_98 cb_10 ?_
    refine qt_goto 105 dX12_test_100 (by decide) ?_
    exact qt_sub _ [0, 1, 2] rfl ((s_X12_test_b105 x2 x3 (10 : Int32) h E G))
noncomputable def f_X12_test_b82 (x2 : Int32) (x3 : Int32) (x4 : Int32) (h : qa_M) : Option ((Int32 × Int32 × qa_M) ⊕ qa_M) :=
  if x4 = 0 then (
   f_X12_test_b93 x2 x3 h)
  else (
   qbv (m_X12_answers (11 : Int32) h) (fun h90 : qa_M =>
   f_X12_test_b93 x2 x3 h90))
set_option maxRecDepth 20000 in
theorem s_X12_test_b82 {l : Launch} {g : qa_G} {d : Nat} {rz : Option Value} {hz : qa_M} (x2 : Int32) (x3 : Int32) (x4 : Int32) (h : qa_M) {z : ((Int32 × Int32 × qa_M) ⊕ qa_M)} (E : f_X12_test_b82 x2 x3 x4 h = some z) (G : (Sum.elim (fun (sz : Int32 × Int32 × qa_M) => qt_At l g (yX12_test, cX12_test, 5, none) (d + 10) 0 0 9 [(0, .ref (g.1 + 119)), (1, .int sz.1), (2, .int sz.2.1)] [] sz.2.2 rz hz) (qg_v rz hz)) z) : qt_At l g (yX12_test, cX12_test, 5, none) (d + 10) 0 0 82 [(0, .ref (g.1 + 119)), (2, .int x2), (3, .int x3), (4, .int x4)] [] h rz hz := by
  unfold f_X12_test_b82 at E
  refine qt_iload 3 dX12_test_82 rfl ?_
  refine qt_if_eq 93 dX12_test_84 (by decide) E (fun E => ?_) (fun E => ?_)
  · exact qt_sub _ [0, 1, 2] rfl ((s_X12_test_b93 x2 x3 h E G))
  · refine qt_aload_n 0 dX12_test_87 rfl rfl ?_
    refine qt_bipush dX12_test_88 cb_11 ?_
    obtain ⟨h90, e90, E⟩ := qbv_el E
    refine qt_callVv (b2 := 0) [.int (11 : Int32)] (c_X12_answers (11 : Int32) h e90) cv_RX12_329 (wl_119 h) rfl rfl rfl (Nat.le_of_ble_eq_true rfl) (Nat.le_of_ble_eq_true rfl) dX12_test_90 ?_
    exact qt_sub _ [0, 1, 2] rfl ((s_X12_test_b93 x2 x3 h90 E G))
noncomputable def f_X12_test_b164 (x1 : Int32) (x2 : Int32) (h : qa_M) : Option ((Int32 × Int32 × qa_M) ⊕ qa_M) :=
  qbd (qw_I h 119 21 ((h.1 119 21) + (1 : Int32))) (fun h171 : qa_M =>
  qbd (qw_I h171 119 28 ((h171.1 119 28) - (1 : Int32))) (fun h181 : qa_M =>
  qbd (qw_I h181 119 26 ((h181.1 119 26) - (1 : Int32))) (fun h191 : qa_M =>
  f_X12_test_b199 x1 x2 h191)))
set_option maxRecDepth 20000 in
theorem s_X12_test_b164 {l : Launch} {g : qa_G} {d : Nat} {rz : Option Value} {hz : qa_M} (x1 : Int32) (x2 : Int32) (h : qa_M) {z : ((Int32 × Int32 × qa_M) ⊕ qa_M)} (E : f_X12_test_b164 x1 x2 h = some z) (G : (Sum.elim (fun (sz : Int32 × Int32 × qa_M) => qt_At l g (yX12_test, cX12_test, 5, none) (d + 10) 0 0 9 [(0, .ref (g.1 + 119)), (1, .int sz.1), (2, .int sz.2.1)] [] sz.2.2 rz hz) (qg_v rz hz)) z) : qt_At l g (yX12_test, cX12_test, 5, none) (d + 10) 0 0 164 [(0, .ref (g.1 + 119)), (1, .int x1), (2, .int x2)] [] h rz hz := by
  unfold f_X12_test_b164 at E
  refine qt_aload_n 0 dX12_test_164 rfl rfl ?_
  refine qt_dup dX12_test_165 rfl ?_
  refine qt_getI (wl_119 h) fe_RX12_243 rfl dX12_test_166 ?_
  refine qt_iconst dX12_test_169 ci_1 ?_
  refine qt_iadd dX12_test_170 ?_
  refine qt_putI (wl_119 h) fd_RX12_243 rfl rfl rfl dX12_test_171 E (fun h171 E => ?_)
  refine qt_aload_n 0 dX12_test_174 rfl rfl ?_
  refine qt_dup dX12_test_175 rfl ?_
  refine qt_getI (wl_119 h171) fe_RX12_309 rfl dX12_test_176 ?_
  refine qt_iconst dX12_test_179 ci_1 ?_
  refine qt_isub dX12_test_180 ?_
  refine qt_putI (wl_119 h171) fd_RX12_309 rfl rfl rfl dX12_test_181 E (fun h181 E => ?_)
  refine qt_aload_n 0 dX12_test_184 rfl rfl ?_
  refine qt_dup dX12_test_185 rfl ?_
  refine qt_getI (wl_119 h181) fe_RX12_312 rfl dX12_test_186 ?_
  refine qt_iconst dX12_test_189 ci_1 ?_
  refine qt_isub dX12_test_190 ?_
  refine qt_putI (wl_119 h181) fd_RX12_312 rfl rfl rfl dX12_test_191 E (fun h191 E => ?_)
  refine qt_goto 199 dX12_test_194 (by decide) ?_
  exact qt_sub _ [0, 1, 2] rfl ((s_X12_test_b199 x1 x2 h191 E G))
noncomputable def f_X12_test_b36 (x2 : Int32) (s0 : Int32) (h : qa_M) : Option ((Int32 × Int32 × qa_M) ⊕ qa_M) :=
  qbd s0 (fun v36 : Int32 =>
  some (.inl (v36, x2, h)))
set_option maxRecDepth 20000 in
theorem s_X12_test_b36 {l : Launch} {g : qa_G} {d : Nat} {rz : Option Value} {hz : qa_M} (x2 : Int32) (s0 : Int32) (h : qa_M) {z : ((Int32 × Int32 × qa_M) ⊕ qa_M)} (E : f_X12_test_b36 x2 s0 h = some z) (G : (Sum.elim (fun (sz : Int32 × Int32 × qa_M) => qt_At l g (yX12_test, cX12_test, 5, none) (d + 10) 0 0 9 [(0, .ref (g.1 + 119)), (1, .int sz.1), (2, .int sz.2.1)] [] sz.2.2 rz hz) (qg_v rz hz)) z) : qt_At l g (yX12_test, cX12_test, 5, none) (d + 10) 0 0 36 [(0, .ref (g.1 + 119)), (2, .int x2)] [.int s0] h rz hz := by
  unfold f_X12_test_b36 at E
  refine qt_istore_n (fun v36 => [(1, .int v36), (0, .ref (g.1 + 119)), (2, .int x2)]) dX12_test_36 rfl (Nat.le_of_ble_eq_true rfl) (fun _ => rfl) E (fun v36 E => ?_)
  refine qt_goto 9 dX12_test_37 (by decide) ?_
  cases E
  exact qt_sub _ [1, 0, 2] rfl (G)
noncomputable def f_X12_test_b9 (x1 : Int32) (x2 : Int32) (h : qa_M) : Option ((Int32 × Int32 × qa_M) ⊕ qa_M) :=
  if x2 = 0 then (
   qup (some h))
  else (
   if (h.1 119 22) = 0 then (
    if x1 = 0 then (
     qbv (m_X12_answers (9 : Int32) h) (fun h43 : qa_M =>
     qbv (m_X12_blanks h43) (fun h47 : qa_M =>
     qbn (m_X12_stood 17 h47) (fun (c54 : Int32) (h54 : qa_M) =>
     qbd c54 (fun v57 : Int32 =>
     qbn (m_X12_stood 18 h54) (fun (c62 : Int32) (h62 : qa_M) =>
     qbd c62 (fun v65 : Int32 =>
     qbv (m_X12_answers (10 : Int32) h62) (fun h70 : qa_M =>
     if v57 = 0 then (
      if v65 = 0 then (
       qbv (m_X12_answers (11 : Int32) h70) (fun h134 : qa_M =>
       qbn (m_X12_top h134) (fun (c138 : Int32) (h138 : qa_M) =>
       if c138 = (12 : Int32) then (
        qbn (m_X12_sign h138) (fun (c147 : Int32) (h147 : qa_M) =>
        if c147 = (93 : Int32) then (
         f_X12_test_b164 x1 x2 h147)
        else (
         qbv (m_X12_fails (0 : Int32) (h147.1 119 21) h147) (fun h161 : qa_M =>
         f_X12_test_b164 x1 x2 h161))))
       else (
        qbd (0 : Int32) (fun v198 : Int32 =>
        f_X12_test_b199 x1 v198 h138)))))
      else (
       f_X12_test_b82 x2 v57 v65 h70))
     else (
      f_X12_test_b82 x2 v57 v65 h70)))))))))
    else (
     qbn (m_X12_fact h) (fun (c25 : Int32) (h25 : qa_M) =>
     if c25 = 0 then (
      f_X12_test_b36 x2 (1 : Int32) h25)
     else (
      f_X12_test_b36 x2 (0 : Int32) h25))))
   else (
    qup (some h)))
set_option maxRecDepth 20000 in
theorem s_X12_test_b9 {l : Launch} {g : qa_G} {d : Nat} {rz : Option Value} {hz : qa_M} (x1 : Int32) (x2 : Int32) (h : qa_M) {z : ((Int32 × Int32 × qa_M) ⊕ qa_M)} (E : f_X12_test_b9 x1 x2 h = some z) (G : (Sum.elim (fun (sz : Int32 × Int32 × qa_M) => qt_At l g (yX12_test, cX12_test, 5, none) (d + 10) 0 0 9 [(0, .ref (g.1 + 119)), (1, .int sz.1), (2, .int sz.2.1)] [] sz.2.2 rz hz) (qg_v rz hz)) z) : qt_At l g (yX12_test, cX12_test, 5, none) (d + 10) 0 0 9 [(0, .ref (g.1 + 119)), (1, .int x1), (2, .int x2)] [] h rz hz := by
  unfold f_X12_test_b9 at E
  refine qt_iload_n 2 dX12_test_9 rfl rfl ?_
  refine qt_if_eq 202 dX12_test_10 (by decide) E (fun E => ?_) (fun E => ?_)
  · obtain ⟨z0_, E, G⟩ := qup_g E G
    exact qt_vreturn rfl (Nat.le_of_ble_eq_true rfl) dX12_test_202 E G
  · refine qt_aload_n 0 dX12_test_13 rfl rfl ?_
    refine qt_getI (wl_119 h) fe_RX12_240 rfl dX12_test_14 ?_
    refine qt_if_ne 202 dX12_test_17 (by decide) E (fun E => ?_) (fun E => ?_)
    · obtain ⟨z0_, E, G⟩ := qup_g E G
      exact qt_vreturn rfl (Nat.le_of_ble_eq_true rfl) dX12_test_202 E G
    · refine qt_iload_n 1 dX12_test_20 rfl rfl ?_
      refine qt_if_eq 40 dX12_test_21 (by decide) E (fun E => ?_) (fun E => ?_)
      · refine qt_aload_n 0 dX12_test_40 rfl rfl ?_
        refine qt_bipush dX12_test_41 cb_9 ?_
        obtain ⟨h43, e43, E⟩ := qbv_el E
        refine qt_callVv (b2 := 0) [.int (9 : Int32)] (c_X12_answers (9 : Int32) h e43) cv_RX12_329 (wl_119 h) rfl rfl rfl (Nat.le_of_ble_eq_true rfl) (Nat.le_of_ble_eq_true rfl) dX12_test_43 ?_
        refine qt_aload_n 0 dX12_test_46 rfl rfl ?_
        obtain ⟨h47, e47, E⟩ := qbv_el E
        refine qt_callVv (b2 := 0) [] (c_X12_blanks h43 e47) cv_RX12_263 (wl_119 h43) rfl rfl rfl (Nat.le_of_ble_eq_true rfl) (Nat.le_of_ble_eq_true rfl) dX12_test_47 ?_
        refine qt_aload_n 0 dX12_test_50 rfl rfl ?_
        refine qt_ldcwS sr_RX12_332 dX12_test_51 ?_
        obtain ⟨c54, h54, e54, E⟩ := qbn_el E
        refine qt_callVi (b2 := 0) [.ref (g.2.2.2.1 17)] (c_X12_stood 17 h47 (by decide) e54) cv_RX12_266 (wl_119 h47) rfl rfl rfl (Nat.le_of_ble_eq_true rfl) (Nat.le_of_ble_eq_true rfl) dX12_test_54 ?_
        refine qt_istore_n (fun v57 => [(3, .int v57), (0, .ref (g.1 + 119)), (1, .int x1), (2, .int x2)]) dX12_test_57 rfl (Nat.le_of_ble_eq_true rfl) (fun _ => rfl) E (fun v57 E => ?_)
        refine qt_aload_n 1 dX12_test_58 rfl rfl ?_
        refine qt_ldcwS sr_RX12_334 dX12_test_59 ?_
        obtain ⟨c62, h62, e62, E⟩ := qbn_el E
        refine qt_callVi (b2 := 0) [.ref (g.2.2.2.1 18)] (c_X12_stood 18 h54 (by decide) e62) cv_RX12_266 (wl_119 h54) rfl rfl rfl (Nat.le_of_ble_eq_true rfl) (Nat.le_of_ble_eq_true rfl) dX12_test_62 ?_
        refine qt_istore (fun v65 => [(4, .int v65), (3, .int v57), (0, .ref (g.1 + 119)), (1, .int x1), (2, .int x2)]) dX12_test_65 (Nat.le_of_ble_eq_true rfl) (fun _ => rfl) E (fun v65 E => ?_)
        refine qt_aload_n 2 dX12_test_67 rfl rfl ?_
        refine qt_bipush dX12_test_68 cb_10 ?_
        obtain ⟨h70, e70, E⟩ := qbv_el E
        refine qt_callVv (b2 := 0) [.int (10 : Int32)] (c_X12_answers (10 : Int32) h62 e70) cv_RX12_329 (wl_119 h62) rfl rfl rfl (Nat.le_of_ble_eq_true rfl) (Nat.le_of_ble_eq_true rfl) dX12_test_70 ?_
        refine qt_iload_n 1 dX12_test_73 rfl rfl ?_
        refine qt_if_ne 82 dX12_test_74 (by decide) E (fun E => ?_) (fun E => ?_)
        · exact qt_sub _ [2, 4, 1, 0] rfl ((s_X12_test_b82 x2 v57 v65 h70 E G))
        · refine qt_iload 0 dX12_test_77 rfl ?_
          refine qt_if_eq 131 dX12_test_79 (by decide) E (fun E => ?_) (fun E => ?_)
          · refine qt_aload_n 2 dX12_test_131 rfl rfl ?_
            refine qt_bipush dX12_test_132 cb_11 ?_
            obtain ⟨h134, e134, E⟩ := qbv_el E
            refine qt_callVv (b2 := 0) [.int (11 : Int32)] (c_X12_answers (11 : Int32) h70 e134) cv_RX12_329 (wl_119 h70) rfl rfl rfl (Nat.le_of_ble_eq_true rfl) (Nat.le_of_ble_eq_true rfl) dX12_test_134 ?_
            refine qt_aload_n 2 dX12_test_137 rfl rfl ?_
            obtain ⟨c138, h138, e138, E⟩ := qbn_el E
            refine qt_callVi (b2 := 0) [] (c_X12_top h134 e138) cv_RX12_315 (wl_119 h134) rfl rfl rfl (Nat.le_of_ble_eq_true rfl) (Nat.le_of_ble_eq_true rfl) dX12_test_138 ?_
            refine qt_bipush dX12_test_141 cb_12 ?_
            refine qt_icmp_ne 197 dX12_test_143 (by decide) E (fun E => ?_) (fun E => ?_)
            · refine qt_iconst dX12_test_197 ci_0 ?_
              refine qt_istore_n (fun v198 => [(2, .int v198), (4, .int v65), (3, .int v57), (0, .ref (g.1 + 119)), (1, .int x1)]) dX12_test_198 rfl (Nat.le_of_ble_eq_true rfl) (fun _ => rfl) E (fun v198 E => ?_)
              exact qt_sub _ [3, 4, 0] rfl ((s_X12_test_b199 x1 v198 h138 E G))
            · refine qt_aload_n 2 dX12_test_146 rfl rfl ?_
              obtain ⟨c147, h147, e147, E⟩ := qbn_el E
              refine qt_callVi (b2 := 0) [] (c_X12_sign h138 e147) cv_RX12_246 (wl_119 h138) rfl rfl rfl (Nat.le_of_ble_eq_true rfl) (Nat.le_of_ble_eq_true rfl) dX12_test_147 ?_
              refine qt_bipush dX12_test_150 cb_93 ?_
              refine qt_icmp_eq 164 dX12_test_152 (by decide) E (fun E => ?_) (fun E => ?_)
              · exact qt_sub _ [2, 3, 4] rfl ((s_X12_test_b164 x1 x2 h147 E G))
              · refine qt_aload_n 2 dX12_test_155 rfl rfl ?_
                refine qt_iconst dX12_test_156 ci_0 ?_
                refine qt_aload_n 2 dX12_test_157 rfl rfl ?_
                refine qt_getI (wl_119 h147) fe_RX12_243 rfl dX12_test_158 ?_
                obtain ⟨h161, e161, E⟩ := qbv_el E
                refine qt_callVv (b2 := 0) [.int (0 : Int32), .int (h147.1 119 21)] (c_X12_fails (0 : Int32) (h147.1 119 21) h147 e161) cv_RX12_279 (wl_119 h147) rfl rfl rfl (Nat.le_of_ble_eq_true rfl) (Nat.le_of_ble_eq_true rfl) dX12_test_161 ?_
                exact qt_sub _ [2, 3, 4] rfl ((s_X12_test_b164 x1 x2 h161 E G))
          · exact qt_sub _ [2, 4, 1, 0] rfl ((s_X12_test_b82 x2 v57 v65 h70 E G))
      · refine qt_aload_n 0 dX12_test_24 rfl rfl ?_
        obtain ⟨c25, h25, e25, E⟩ := qbn_el E
        refine qt_callVi (b2 := 0) [] (c_X12_fact h e25) cv_RX12_326 (wl_119 h) rfl rfl rfl (Nat.le_of_ble_eq_true rfl) (Nat.le_of_ble_eq_true rfl) dX12_test_25 ?_
        refine qt_if_ne 35 dX12_test_28 (by decide) E (fun E => ?_) (fun E => ?_)
        · refine qt_iconst dX12_test_35 ci_0 ?_
          exact qt_sub _ [0, 2] rfl ((s_X12_test_b36 x2 (0 : Int32) h25 E G))
        · refine qt_iconst dX12_test_31 ci_1 ?_
          refine qt_goto 36 dX12_test_32 (by decide) ?_
          exact qt_sub _ [0, 2] rfl ((s_X12_test_b36 x2 (1 : Int32) h25 E G))
noncomputable def f_X12_test_b9_loop (x1 : Int32) (x2 : Int32) (h : qa_M) : Option qa_M := qlp (fun sz : Int32 × Int32 × qa_M => f_X12_test_b9 sz.1 sz.2.1 sz.2.2) (x1, x2, h)
theorem s_X12_test_b9_loop {l : Launch} {g : qa_G} {d : Nat} {rz : Option Value} {hz : qa_M} (x1 : Int32) (x2 : Int32) (h : qa_M) {z : qa_M} (E : f_X12_test_b9_loop x1 x2 h = some z) (G : (qg_v rz hz) z) : qt_At l g (yX12_test, cX12_test, 5, none) (d + 10) 0 0 9 [(0, .ref (g.1 + 119)), (1, .int x1), (2, .int x2)] [] h rz hz :=
  qlp_ind (fun sz : Int32 × Int32 × qa_M => qt_At l g (yX12_test, cX12_test, 5, none) (d + 10) 0 0 9 [(0, .ref (g.1 + 119)), (1, .int sz.1), (2, .int sz.2.1)] [] sz.2.2 rz hz) (fun sz E => s_X12_test_b9 sz.1 sz.2.1 sz.2.2 E G) (fun sz sz2 E ih => s_X12_test_b9 sz.1 sz.2.1 sz.2.2 E ih) (x1, x2, h) E
noncomputable def m_X12_test (h : qa_M) : Option qa_M :=
  qbd (qw_I h 119 28 (0 : Int32)) (fun h2 : qa_M =>
  qbd (1 : Int32) (fun v6 : Int32 =>
  qbd (1 : Int32) (fun v8 : Int32 =>
  f_X12_test_b9_loop v6 v8 h2)))
set_option maxRecDepth 20000 in
theorem c_X12_test {l : Launch} {g : qa_G} {d : Nat} (h : qa_M) {h1 : qa_M} (E : m_X12_test h = some h1) : qt_Met l g (yX12_test, cX12_test, 5, none) (d + 10) 0 [.ref (g.1 + 119)] h none h1 := by
  refine qt_Met.of (plainFor_of_name (by decide)) (Nat.le_of_ble_eq_true rfl) ?_
  have G : qg_v none h1 (h1) := ⟨rfl, rfl⟩
  unfold m_X12_test at E
  refine qt_aload_n 0 dX12_test_0 rfl rfl ?_
  refine qt_iconst dX12_test_1 ci_0 ?_
  refine qt_putI (wl_119 h) fd_RX12_309 rfl rfl rfl dX12_test_2 E (fun h2 E => ?_)
  refine qt_iconst dX12_test_5 ci_1 ?_
  refine qt_istore_n (fun v6 => [(1, .int v6), (0, .ref (g.1 + 119))]) dX12_test_6 rfl (Nat.le_of_ble_eq_true rfl) (fun _ => rfl) E (fun v6 E => ?_)
  refine qt_iconst dX12_test_7 ci_1 ?_
  refine qt_istore_n (fun v8 => [(2, .int v8), (1, .int v6), (0, .ref (g.1 + 119))]) dX12_test_8 rfl (Nat.le_of_ble_eq_true rfl) (fun _ => rfl) E (fun v8 E => ?_)
  exact qt_sub _ [2, 1, 0] rfl ((s_X12_test_b9_loop v6 v8 h2 E G))
noncomputable def f_X12_lawClause_b161 (x4 : Int32) (h : qa_M) : Option qa_M :=
  qck x4 48 (
  qbd (qw_I h 147 x4.toNatClampNeg (h.1 119 25)) (fun h171 : qa_M =>
  some h171))
set_option maxRecDepth 20000 in
theorem s_X12_lawClause_b161 {l : Launch} {g : qa_G} {d : Nat} {rz : Option Value} {hz : qa_M} (x4 : Int32) (h : qa_M) {z : qa_M} (E : f_X12_lawClause_b161 x4 h = some z) (G : (qg_v rz hz) z) : qt_At l g (yX12_lawClause, cX12_lawClause, 5, none) (d + 11) 0 0 161 [(0, .ref (g.1 + 119)), (4, .int x4)] [] h rz hz := by
  unfold f_X12_lawClause_b161 at E
  refine qt_aload_n 0 dX12_lawClause_161 rfl rfl ?_
  refine qt_getS 147 (wl_119 h) fe_RX12_96 rfl dX12_lawClause_162 ?_
  refine qt_iload 1 dX12_lawClause_165 rfl ?_
  refine qt_aload_n 0 dX12_lawClause_167 rfl rfl ?_
  refine qt_getI (wl_119 h) fe_RX12_273 rfl dX12_lawClause_168 ?_
  refine qt_iast (wl_147 h) dX12_lawClause_171 E (fun h171 E => ?_)
  exact qt_vreturn rfl (Nat.le_of_ble_eq_true rfl) dX12_lawClause_172 E G
noncomputable def f_X12_lawClause_b134 (x3 : Int32) (x4 : Int32) (s1 : Int32) (s2 : Int32) (h : qa_M) : Option qa_M :=
  qck s1 48 (
  qbd (qw_I h 145 s1.toNatClampNeg s2) (fun h134 : qa_M =>
  qck x4 48 (
  qbd (qw_I h134 146 x4.toNatClampNeg (h134.1 119 25)) (fun h145 : qa_M =>
  if x3 = 0 then (
   if (h145.1 119 22) = 0 then (
    qbv (m_X12_test h145) (fun h158 : qa_M =>
    f_X12_lawClause_b161 x4 h158))
   else (
    f_X12_lawClause_b161 x4 h145))
  else (
   f_X12_lawClause_b161 x4 h145)))))
set_option maxRecDepth 20000 in
theorem s_X12_lawClause_b134 {l : Launch} {g : qa_G} {d : Nat} {rz : Option Value} {hz : qa_M} (x3 : Int32) (x4 : Int32) (s1 : Int32) (s2 : Int32) (h : qa_M) {z : qa_M} (E : f_X12_lawClause_b134 x3 x4 s1 s2 h = some z) (G : (qg_v rz hz) z) : qt_At l g (yX12_lawClause, cX12_lawClause, 5, none) (d + 11) 0 0 134 [(0, .ref (g.1 + 119)), (3, .int x3), (4, .int x4)] [.int s2, .int s1, .ref (g.1 + 145)] h rz hz := by
  unfold f_X12_lawClause_b134 at E
  refine qt_iast (wl_145 h) dX12_lawClause_134 E (fun h134 E => ?_)
  refine qt_aload_n 0 dX12_lawClause_135 rfl rfl ?_
  refine qt_getS 146 (wl_119 h134) fe_RX12_93 rfl dX12_lawClause_136 ?_
  refine qt_iload 2 dX12_lawClause_139 rfl ?_
  refine qt_aload_n 0 dX12_lawClause_141 rfl rfl ?_
  refine qt_getI (wl_119 h134) fe_RX12_273 rfl dX12_lawClause_142 ?_
  refine qt_iast (wl_146 h134) dX12_lawClause_145 E (fun h145 E => ?_)
  refine qt_iload_n 1 dX12_lawClause_146 rfl rfl ?_
  refine qt_if_ne 161 dX12_lawClause_147 (by decide) E (fun E => ?_) (fun E => ?_)
  · exact qt_sub _ [0, 2] rfl ((s_X12_lawClause_b161 x4 h145 E G))
  · refine qt_aload_n 0 dX12_lawClause_150 rfl rfl ?_
    refine qt_getI (wl_119 h145) fe_RX12_240 rfl dX12_lawClause_151 ?_
    refine qt_if_ne 161 dX12_lawClause_154 (by decide) E (fun E => ?_) (fun E => ?_)
    · exact qt_sub _ [0, 2] rfl ((s_X12_lawClause_b161 x4 h145 E G))
    · refine qt_aload_n 0 dX12_lawClause_157 rfl rfl ?_
      obtain ⟨h158, e158, E⟩ := qbv_el E
      refine qt_callVv (b2 := 0) [] (c_X12_test h145 e158) cv_RX12_379 (wl_119 h145) rfl rfl rfl (Nat.le_of_ble_eq_true rfl) (Nat.le_of_ble_eq_true rfl) dX12_lawClause_158 ?_
      exact qt_sub _ [0, 2] rfl ((s_X12_lawClause_b161 x4 h158 E G))
noncomputable def f_X12_lawClause_b113 (x3 : Int32) (x4 : Int32) (s1 : Int32) (s2 : Int32) (h : qa_M) : Option qa_M :=
  qck s1 48 (
  qbd (qw_I h 144 s1.toNatClampNeg s2) (fun h113 : qa_M =>
  if x3 = 0 then (
   f_X12_lawClause_b134 x3 x4 x4 (0 : Int32) h113)
  else (
   qbn (m_X12_amount (1 : Int32) (5 : Int32) h113) (fun (c127 : Int32) (h127 : qa_M) =>
   f_X12_lawClause_b134 x3 x4 x4 c127 h127))))
set_option maxRecDepth 20000 in
theorem s_X12_lawClause_b113 {l : Launch} {g : qa_G} {d : Nat} {rz : Option Value} {hz : qa_M} (x3 : Int32) (x4 : Int32) (s1 : Int32) (s2 : Int32) (h : qa_M) {z : qa_M} (E : f_X12_lawClause_b113 x3 x4 s1 s2 h = some z) (G : (qg_v rz hz) z) : qt_At l g (yX12_lawClause, cX12_lawClause, 5, none) (d + 11) 0 0 113 [(0, .ref (g.1 + 119)), (3, .int x3), (4, .int x4)] [.int s2, .int s1, .ref (g.1 + 144)] h rz hz := by
  unfold f_X12_lawClause_b113 at E
  refine qt_iast (wl_144 h) dX12_lawClause_113 E (fun h113 E => ?_)
  refine qt_aload_n 0 dX12_lawClause_114 rfl rfl ?_
  refine qt_getS 145 (wl_119 h113) fe_RX12_90 rfl dX12_lawClause_115 ?_
  refine qt_iload 2 dX12_lawClause_118 rfl ?_
  refine qt_iload_n 1 dX12_lawClause_120 rfl rfl ?_
  refine qt_if_eq 133 dX12_lawClause_121 (by decide) E (fun E => ?_) (fun E => ?_)
  · refine qt_iconst dX12_lawClause_133 ci_0 ?_
    exact qt_sub _ [0, 1, 2] rfl ((s_X12_lawClause_b134 x3 x4 x4 (0 : Int32) h113 E G))
  · refine qt_aload_n 0 dX12_lawClause_124 rfl rfl ?_
    refine qt_iconst dX12_lawClause_125 ci_1 ?_
    refine qt_iconst dX12_lawClause_126 ci_5 ?_
    obtain ⟨c127, h127, e127, E⟩ := qbn_el E
    refine qt_callVi (b2 := 0) [.int (1 : Int32), .int (5 : Int32)] (c_X12_amount (1 : Int32) (5 : Int32) h113 e127) cv_RX12_336 (wl_119 h113) rfl rfl rfl (Nat.le_of_ble_eq_true rfl) (Nat.le_of_ble_eq_true rfl) dX12_lawClause_127 ?_
    refine qt_goto 134 dX12_lawClause_130 (by decide) ?_
    exact qt_sub _ [0, 1, 2] rfl ((s_X12_lawClause_b134 x3 x4 x4 c127 h127 E G))
noncomputable def f_X12_lawClause_b65 (x1 : Int32) (x3 : Int32) (s1 : Int32) (s2 : Int32) (h : qa_M) : Option qa_M :=
  qbd (qw_I h 119 21 (s1 + s2)) (fun h66 : qa_M =>
  qbd (((12 : Int32) * (h66.1 119 23)) + x1) (fun v78 : Int32 =>
  qbn (m_X12_amount (0 : Int32) (3 : Int32) h66) (fun (c89 : Int32) (h89 : qa_M) =>
  qck v78 48 (
  qbd (qw_I h89 143 v78.toNatClampNeg c89) (fun h92 : qa_M =>
  if x3 = 0 then (
   f_X12_lawClause_b113 x3 v78 v78 (-1 : Int32) h92)
  else (
   qbn (m_X12_amount (0 : Int32) (3 : Int32) h92) (fun (c106 : Int32) (h106 : qa_M) =>
   f_X12_lawClause_b113 x3 v78 v78 c106 h106)))))))
set_option maxRecDepth 20000 in
theorem s_X12_lawClause_b65 {l : Launch} {g : qa_G} {d : Nat} {rz : Option Value} {hz : qa_M} (x1 : Int32) (x3 : Int32) (s1 : Int32) (s2 : Int32) (h : qa_M) {z : qa_M} (E : f_X12_lawClause_b65 x1 x3 s1 s2 h = some z) (G : (qg_v rz hz) z) : qt_At l g (yX12_lawClause, cX12_lawClause, 5, none) (d + 11) 0 0 65 [(0, .ref (g.1 + 119)), (1, .int x1), (3, .int x3)] [.int s2, .int s1, .ref (g.1 + 119)] h rz hz := by
  unfold f_X12_lawClause_b65 at E
  refine qt_iadd dX12_lawClause_65 ?_
  refine qt_putI (wl_119 h) fd_RX12_243 rfl rfl rfl dX12_lawClause_66 E (fun h66 E => ?_)
  refine qt_bipush dX12_lawClause_69 cb_12 ?_
  refine qt_aload_n 0 dX12_lawClause_71 rfl rfl ?_
  refine qt_getI (wl_119 h66) fe_RX12_270 rfl dX12_lawClause_72 ?_
  refine qt_imul dX12_lawClause_75 ?_
  refine qt_iload_n 1 dX12_lawClause_76 rfl rfl ?_
  refine qt_iadd dX12_lawClause_77 ?_
  refine qt_istore (fun v78 => [(4, .int v78), (0, .ref (g.1 + 119)), (1, .int x1), (3, .int x3)]) dX12_lawClause_78 (Nat.le_of_ble_eq_true rfl) (fun _ => rfl) E (fun v78 E => ?_)
  refine qt_aload_n 1 dX12_lawClause_80 rfl rfl ?_
  refine qt_getS 143 (wl_119 h66) fe_RX12_84 rfl dX12_lawClause_81 ?_
  refine qt_iload 0 dX12_lawClause_84 rfl ?_
  refine qt_aload_n 1 dX12_lawClause_86 rfl rfl ?_
  refine qt_iconst dX12_lawClause_87 ci_0 ?_
  refine qt_iconst dX12_lawClause_88 ci_3 ?_
  obtain ⟨c89, h89, e89, E⟩ := qbn_el E
  refine qt_callVi (b2 := 0) [.int (0 : Int32), .int (3 : Int32)] (c_X12_amount (0 : Int32) (3 : Int32) h66 e89) cv_RX12_336 (wl_119 h66) rfl rfl rfl (Nat.le_of_ble_eq_true rfl) (Nat.le_of_ble_eq_true rfl) dX12_lawClause_89 ?_
  refine qt_iast (wl_143 h89) dX12_lawClause_92 E (fun h92 E => ?_)
  refine qt_aload_n 1 dX12_lawClause_93 rfl rfl ?_
  refine qt_getS 144 (wl_119 h92) fe_RX12_87 rfl dX12_lawClause_94 ?_
  refine qt_iload 0 dX12_lawClause_97 rfl ?_
  refine qt_iload_n 3 dX12_lawClause_99 rfl rfl ?_
  refine qt_if_eq 112 dX12_lawClause_100 (by decide) E (fun E => ?_) (fun E => ?_)
  · refine qt_iconst dX12_lawClause_112 ci_m1 ?_
    exact qt_sub _ [1, 3, 0] rfl ((s_X12_lawClause_b113 x3 v78 v78 (-1 : Int32) h92 E G))
  · refine qt_aload_n 1 dX12_lawClause_103 rfl rfl ?_
    refine qt_iconst dX12_lawClause_104 ci_0 ?_
    refine qt_iconst dX12_lawClause_105 ci_3 ?_
    obtain ⟨c106, h106, e106, E⟩ := qbn_el E
    refine qt_callVi (b2 := 0) [.int (0 : Int32), .int (3 : Int32)] (c_X12_amount (0 : Int32) (3 : Int32) h92 e106) cv_RX12_336 (wl_119 h92) rfl rfl rfl (Nat.le_of_ble_eq_true rfl) (Nat.le_of_ble_eq_true rfl) dX12_lawClause_106 ?_
    refine qt_goto 113 dX12_lawClause_109 (by decide) ?_
    exact qt_sub _ [1, 3, 0] rfl ((s_X12_lawClause_b113 x3 v78 v78 c106 h106 E G))
noncomputable def f_X12_lawClause_b38 (x1 : Int32) (x2 : Int32) (x3 : Int32) (h : qa_M) : Option qa_M :=
  if x1 = (12 : Int32) then (
   qbv (m_X12_fails (4 : Int32) x2 h) (fun h47 : qa_M =>
   some h47))
  else (
   if x3 = 0 then (
    f_X12_lawClause_b65 x1 x3 (h.1 119 21) (3 : Int32) h)
   else (
    f_X12_lawClause_b65 x1 x3 (h.1 119 21) (5 : Int32) h))
set_option maxRecDepth 20000 in
theorem s_X12_lawClause_b38 {l : Launch} {g : qa_G} {d : Nat} {rz : Option Value} {hz : qa_M} (x1 : Int32) (x2 : Int32) (x3 : Int32) (h : qa_M) {z : qa_M} (E : f_X12_lawClause_b38 x1 x2 x3 h = some z) (G : (qg_v rz hz) z) : qt_At l g (yX12_lawClause, cX12_lawClause, 5, none) (d + 11) 0 0 38 [(0, .ref (g.1 + 119)), (1, .int x1), (2, .int x2), (3, .int x3)] [] h rz hz := by
  unfold f_X12_lawClause_b38 at E
  refine qt_iload_n 1 dX12_lawClause_38 rfl rfl ?_
  refine qt_bipush dX12_lawClause_39 cb_12 ?_
  refine qt_icmp_ne 51 dX12_lawClause_41 (by decide) E (fun E => ?_) (fun E => ?_)
  · refine qt_aload_n 0 dX12_lawClause_51 rfl rfl ?_
    refine qt_dup dX12_lawClause_52 rfl ?_
    refine qt_getI (wl_119 h) fe_RX12_243 rfl dX12_lawClause_53 ?_
    refine qt_iload_n 3 dX12_lawClause_56 rfl rfl ?_
    refine qt_if_eq 64 dX12_lawClause_57 (by decide) E (fun E => ?_) (fun E => ?_)
    · refine qt_iconst dX12_lawClause_64 ci_3 ?_
      exact qt_sub _ [0, 1, 3] rfl ((s_X12_lawClause_b65 x1 x3 (h.1 119 21) (3 : Int32) h E G))
    · refine qt_iconst dX12_lawClause_60 ci_5 ?_
      refine qt_goto 65 dX12_lawClause_61 (by decide) ?_
      exact qt_sub _ [0, 1, 3] rfl ((s_X12_lawClause_b65 x1 x3 (h.1 119 21) (5 : Int32) h E G))
  · refine qt_aload_n 0 dX12_lawClause_44 rfl rfl ?_
    refine qt_iconst dX12_lawClause_45 ci_4 ?_
    refine qt_iload_n 2 dX12_lawClause_46 rfl rfl ?_
    obtain ⟨h47, e47, E⟩ := qbv_el E
    refine qt_callVv (b2 := 0) [.int (4 : Int32), .int x2] (c_X12_fails (4 : Int32) x2 h e47) cv_RX12_279 (wl_119 h) rfl rfl rfl (Nat.le_of_ble_eq_true rfl) (Nat.le_of_ble_eq_true rfl) dX12_lawClause_47 ?_
    exact qt_vreturn rfl (Nat.le_of_ble_eq_true rfl) dX12_lawClause_50 E G
noncomputable def m_X12_lawClause (x1 : Int32) (h : qa_M) : Option qa_M :=
  qbv (m_X12_blanks h) (fun h1 : qa_M =>
  qbd (h1.1 119 21) (fun v8 : Int32 =>
  qbn (m_X12_stood 10 h1) (fun (c13 : Int32) (h13 : qa_M) =>
  qbd c13 (fun v16 : Int32 =>
  if v16 = 0 then (
   qbn (m_X12_stood 11 h13) (fun (c25 : Int32) (h25 : qa_M) =>
   if c25 = 0 then (
    qbv (m_X12_fails (0 : Int32) v8 h25) (fun h34 : qa_M =>
    some h34))
   else (
    f_X12_lawClause_b38 x1 v8 v16 h25)))
  else (
   f_X12_lawClause_b38 x1 v8 v16 h13)))))
set_option maxRecDepth 20000 in
theorem c_X12_lawClause {l : Launch} {g : qa_G} {d : Nat} (x1 : Int32) (h : qa_M) {h1 : qa_M} (E : m_X12_lawClause x1 h = some h1) : qt_Met l g (yX12_lawClause, cX12_lawClause, 5, none) (d + 11) 0 [.ref (g.1 + 119), .int x1] h none h1 := by
  refine qt_Met.of (plainFor_of_name (by decide)) (Nat.le_of_ble_eq_true rfl) ?_
  have G : qg_v none h1 (h1) := ⟨rfl, rfl⟩
  unfold m_X12_lawClause at E
  refine qt_aload_n 0 dX12_lawClause_0 rfl rfl ?_
  obtain ⟨h1, e1, E⟩ := qbv_el E
  refine qt_callVv (b2 := 0) [] (c_X12_blanks h e1) cv_RX12_263 (wl_119 h) rfl rfl rfl (Nat.le_of_ble_eq_true rfl) (Nat.le_of_ble_eq_true rfl) dX12_lawClause_1 ?_
  refine qt_aload_n 0 dX12_lawClause_4 rfl rfl ?_
  refine qt_getI (wl_119 h1) fe_RX12_243 rfl dX12_lawClause_5 ?_
  refine qt_istore_n (fun v8 => [(2, .int v8), (0, .ref (g.1 + 119)), (1, .int x1)]) dX12_lawClause_8 rfl (Nat.le_of_ble_eq_true rfl) (fun _ => rfl) E (fun v8 E => ?_)
  refine qt_aload_n 1 dX12_lawClause_9 rfl rfl ?_
  refine qt_ldcwS sr_RX12_376 dX12_lawClause_10 ?_
  obtain ⟨c13, h13, e13, E⟩ := qbn_el E
  refine qt_callVi (b2 := 0) [.ref (g.2.2.2.1 10)] (c_X12_stood 10 h1 (by decide) e13) cv_RX12_266 (wl_119 h1) rfl rfl rfl (Nat.le_of_ble_eq_true rfl) (Nat.le_of_ble_eq_true rfl) dX12_lawClause_13 ?_
  refine qt_istore_n (fun v16 => [(3, .int v16), (2, .int v8), (0, .ref (g.1 + 119)), (1, .int x1)]) dX12_lawClause_16 rfl (Nat.le_of_ble_eq_true rfl) (fun _ => rfl) E (fun v16 E => ?_)
  refine qt_iload_n 0 dX12_lawClause_17 rfl rfl ?_
  refine qt_if_ne 38 dX12_lawClause_18 (by decide) E (fun E => ?_) (fun E => ?_)
  · exact qt_sub _ [2, 3, 1, 0] rfl ((s_X12_lawClause_b38 x1 v8 v16 h13 E G))
  · refine qt_aload_n 2 dX12_lawClause_21 rfl rfl ?_
    refine qt_ldcwS sr_RX12_377 dX12_lawClause_22 ?_
    obtain ⟨c25, h25, e25, E⟩ := qbn_el E
    refine qt_callVi (b2 := 0) [.ref (g.2.2.2.1 11)] (c_X12_stood 11 h13 (by decide) e25) cv_RX12_266 (wl_119 h13) rfl rfl rfl (Nat.le_of_ble_eq_true rfl) (Nat.le_of_ble_eq_true rfl) dX12_lawClause_25 ?_
    refine qt_if_ne 38 dX12_lawClause_28 (by decide) E (fun E => ?_) (fun E => ?_)
    · exact qt_sub _ [2, 3, 1, 0] rfl ((s_X12_lawClause_b38 x1 v8 v16 h25 E G))
    · refine qt_aload_n 2 dX12_lawClause_31 rfl rfl ?_
      refine qt_iconst dX12_lawClause_32 ci_0 ?_
      refine qt_iload_n 1 dX12_lawClause_33 rfl rfl ?_
      obtain ⟨h34, e34, E⟩ := qbv_el E
      refine qt_callVv (b2 := 0) [.int (0 : Int32), .int v8] (c_X12_fails (0 : Int32) v8 h25 e34) cv_RX12_279 (wl_119 h25) rfl rfl rfl (Nat.le_of_ble_eq_true rfl) (Nat.le_of_ble_eq_true rfl) dX12_lawClause_34 ?_
      exact qt_vreturn rfl (Nat.le_of_ble_eq_true rfl) dX12_lawClause_37 E G
noncomputable def f_X12_law_b78 (s1 : Int32) (s2 : Int32) (h : qa_M) : Option (Int32 × qa_M) :=
  qbd (qw_I h 119 24 (s1 + s2)) (fun h79 : qa_M =>
  if (h79.1 119 22) ≤ 0 then (
   some (((h79.1 119 24) - (1 : Int32)), h79))
  else (
   some (((-2 : Int32) - (h79.1 119 22)), h79)))
set_option maxRecDepth 20000 in
theorem s_X12_law_b78 {l : Launch} {g : qa_G} {d : Nat} {rz : Option Value} {hz : qa_M} (s1 : Int32) (s2 : Int32) (h : qa_M) {z : (Int32 × qa_M)} (E : f_X12_law_b78 s1 s2 h = some z) (G : (qg_i rz hz) z) : qt_At l g (yX12_law, cX12_law, 3, (some .int)) (d + 12) 0 0 78 [(0, .ref (g.1 + 119))] [.int s2, .int s1, .ref (g.1 + 119)] h rz hz := by
  unfold f_X12_law_b78 at E
  refine qt_iadd dX12_law_78 ?_
  refine qt_putI (wl_119 h) fd_RX12_382 rfl rfl rfl dX12_law_79 E (fun h79 E => ?_)
  refine qt_aload_n 0 dX12_law_82 rfl rfl ?_
  refine qt_getI (wl_119 h79) fe_RX12_240 rfl dX12_law_83 ?_
  refine qt_if_le 99 dX12_law_86 (by decide) E (fun E => ?_) (fun E => ?_)
  · refine qt_aload_n 0 dX12_law_99 rfl rfl ?_
    refine qt_getI (wl_119 h79) fe_RX12_382 rfl dX12_law_100 ?_
    refine qt_iconst dX12_law_103 ci_1 ?_
    refine qt_isub dX12_law_104 ?_
    exact qt_ireturn rfl (Nat.le_of_ble_eq_true rfl) dX12_law_105 E G
  · refine qt_bipush dX12_law_89 cb_m2 ?_
    refine qt_aload_n 0 dX12_law_91 rfl rfl ?_
    refine qt_getI (wl_119 h79) fe_RX12_240 rfl dX12_law_92 ?_
    refine qt_isub dX12_law_95 ?_
    refine qt_goto 105 dX12_law_96 (by decide) ?_
    exact qt_ireturn rfl (Nat.le_of_ble_eq_true rfl) dX12_law_105 E G
noncomputable def f_X12_law_b46 (x1 : Int32) (h : qa_M) : Option (Int32 × qa_M) :=
  qbd (qw_I h 119 20 (0 : Int32)) (fun h48 : qa_M =>
  qck (h48.1 119 23) 4 (
  qbd (qw_I h48 142 (h48.1 119 23).toNatClampNeg x1) (fun h60 : qa_M =>
  if (h60.1 119 22) = 0 then (
   f_X12_law_b78 (h60.1 119 24) (1 : Int32) h60)
  else (
   f_X12_law_b78 (h60.1 119 24) (0 : Int32) h60))))
set_option maxRecDepth 20000 in
theorem s_X12_law_b46 {l : Launch} {g : qa_G} {d : Nat} {rz : Option Value} {hz : qa_M} (x1 : Int32) (h : qa_M) {z : (Int32 × qa_M)} (E : f_X12_law_b46 x1 h = some z) (G : (qg_i rz hz) z) : qt_At l g (yX12_law, cX12_law, 3, (some .int)) (d + 12) 0 0 46 [(0, .ref (g.1 + 119)), (1, .int x1)] [] h rz hz := by
  unfold f_X12_law_b46 at E
  refine qt_aload_n 0 dX12_law_46 rfl rfl ?_
  refine qt_iconst dX12_law_47 ci_0 ?_
  refine qt_putI (wl_119 h) fd_RX12_215 rfl rfl rfl dX12_law_48 E (fun h48 E => ?_)
  refine qt_aload_n 0 dX12_law_51 rfl rfl ?_
  refine qt_getS 142 (wl_119 h48) fe_RX12_81 rfl dX12_law_52 ?_
  refine qt_aload_n 0 dX12_law_55 rfl rfl ?_
  refine qt_getI (wl_119 h48) fe_RX12_270 rfl dX12_law_56 ?_
  refine qt_iload_n 1 dX12_law_59 rfl rfl ?_
  refine qt_iast (wl_142 h48) dX12_law_60 E (fun h60 E => ?_)
  refine qt_aload_n 0 dX12_law_61 rfl rfl ?_
  refine qt_dup dX12_law_62 rfl ?_
  refine qt_getI (wl_119 h60) fe_RX12_382 rfl dX12_law_63 ?_
  refine qt_aload_n 0 dX12_law_66 rfl rfl ?_
  refine qt_getI (wl_119 h60) fe_RX12_240 rfl dX12_law_67 ?_
  refine qt_if_ne 77 dX12_law_70 (by decide) E (fun E => ?_) (fun E => ?_)
  · refine qt_iconst dX12_law_77 ci_0 ?_
    exact qt_sub _ [0] rfl ((s_X12_law_b78 (h60.1 119 24) (0 : Int32) h60 E G))
  · refine qt_iconst dX12_law_73 ci_1 ?_
    refine qt_goto 78 dX12_law_74 (by decide) ?_
    exact qt_sub _ [0] rfl ((s_X12_law_b78 (h60.1 119 24) (1 : Int32) h60 E G))
noncomputable def f_X12_law_b26 (x1 : Int32) (x2 : Int32) (h : qa_M) : Option ((Int32 × Int32 × qa_M) ⊕ (Int32 × qa_M)) :=
  if x2 = 0 then (
   qup (f_X12_law_b46 x1 h))
  else (
   qbv (m_X12_lawClause x1 h) (fun h32 : qa_M =>
   qbd (x1 + (1 : Int32)) (fun v35 : Int32 =>
   qbn (m_X12_goesOn h32) (fun (c39 : Int32) (h39 : qa_M) =>
   qbd c39 (fun v42 : Int32 =>
   some (.inl (v35, v42, h39)))))))
set_option maxRecDepth 20000 in
theorem s_X12_law_b26 {l : Launch} {g : qa_G} {d : Nat} {rz : Option Value} {hz : qa_M} (x1 : Int32) (x2 : Int32) (h : qa_M) {z : ((Int32 × Int32 × qa_M) ⊕ (Int32 × qa_M))} (E : f_X12_law_b26 x1 x2 h = some z) (G : (Sum.elim (fun (sz : Int32 × Int32 × qa_M) => qt_At l g (yX12_law, cX12_law, 3, (some .int)) (d + 12) 0 0 26 [(0, .ref (g.1 + 119)), (1, .int sz.1), (2, .int sz.2.1)] [] sz.2.2 rz hz) (qg_i rz hz)) z) : qt_At l g (yX12_law, cX12_law, 3, (some .int)) (d + 12) 0 0 26 [(0, .ref (g.1 + 119)), (1, .int x1), (2, .int x2)] [] h rz hz := by
  unfold f_X12_law_b26 at E
  refine qt_iload_n 2 dX12_law_26 rfl rfl ?_
  refine qt_if_eq 46 dX12_law_27 (by decide) E (fun E => ?_) (fun E => ?_)
  · obtain ⟨z0_, E, G⟩ := qup_g E G
    exact qt_sub _ [0, 1] rfl ((s_X12_law_b46 x1 h E G))
  · refine qt_aload_n 0 dX12_law_30 rfl rfl ?_
    refine qt_iload_n 1 dX12_law_31 rfl rfl ?_
    obtain ⟨h32, e32, E⟩ := qbv_el E
    refine qt_callVv (b2 := 0) [.int x1] (c_X12_lawClause x1 h e32) cv_RX12_385 (wl_119 h) rfl rfl rfl (Nat.le_of_ble_eq_true rfl) (Nat.le_of_ble_eq_true rfl) dX12_law_32 ?_
    refine qt_iinc 1 (fun v35 => [(1, .int v35), (0, .ref (g.1 + 119)), (2, .int x2)]) dX12_law_35 rfl ci_1 (Nat.le_of_ble_eq_true rfl) (fun _ => rfl) E (fun v35 E => ?_)
    refine qt_aload_n 1 dX12_law_38 rfl rfl ?_
    obtain ⟨c39, h39, e39, E⟩ := qbn_el E
    refine qt_callVi (b2 := 0) [] (c_X12_goesOn h32 e39) cv_RX12_369 (wl_119 h32) rfl rfl rfl (Nat.le_of_ble_eq_true rfl) (Nat.le_of_ble_eq_true rfl) dX12_law_39 ?_
    refine qt_istore_n (fun v42 => [(2, .int v42), (1, .int v35), (0, .ref (g.1 + 119))]) dX12_law_42 rfl (Nat.le_of_ble_eq_true rfl) (fun _ => rfl) E (fun v42 E => ?_)
    refine qt_goto 26 dX12_law_43 (by decide) ?_
    cases E
    exact qt_sub _ [2, 1, 0] rfl (G)
noncomputable def f_X12_law_b26_loop (x1 : Int32) (x2 : Int32) (h : qa_M) : Option (Int32 × qa_M) := qlp (fun sz : Int32 × Int32 × qa_M => f_X12_law_b26 sz.1 sz.2.1 sz.2.2) (x1, x2, h)
theorem s_X12_law_b26_loop {l : Launch} {g : qa_G} {d : Nat} {rz : Option Value} {hz : qa_M} (x1 : Int32) (x2 : Int32) (h : qa_M) {z : (Int32 × qa_M)} (E : f_X12_law_b26_loop x1 x2 h = some z) (G : (qg_i rz hz) z) : qt_At l g (yX12_law, cX12_law, 3, (some .int)) (d + 12) 0 0 26 [(0, .ref (g.1 + 119)), (1, .int x1), (2, .int x2)] [] h rz hz :=
  qlp_ind (fun sz : Int32 × Int32 × qa_M => qt_At l g (yX12_law, cX12_law, 3, (some .int)) (d + 12) 0 0 26 [(0, .ref (g.1 + 119)), (1, .int sz.1), (2, .int sz.2.1)] [] sz.2.2 rz hz) (fun sz E => s_X12_law_b26 sz.1 sz.2.1 sz.2.2 E G) (fun sz sz2 E ih => s_X12_law_b26 sz.1 sz.2.1 sz.2.2 E ih) (x1, x2, h) E
noncomputable def m_X12_law (h : qa_M) : Option (Int32 × qa_M) :=
  if (h.1 119 24) = (4 : Int32) then (
   some ((-1 : Int32), h))
  else (
   qbd (qw_I h 119 23 (h.1 119 24)) (fun h15 : qa_M =>
   qbv (m_X12_starts h15) (fun h19 : qa_M =>
   qbd (0 : Int32) (fun v23 : Int32 =>
   qbd (1 : Int32) (fun v25 : Int32 =>
   f_X12_law_b26_loop v23 v25 h19)))))
set_option maxRecDepth 20000 in
theorem c_X12_law {l : Launch} {g : qa_G} {d : Nat} (h : qa_M) {c : Int32} {h1 : qa_M} (E : m_X12_law h = some (c, h1)) : qt_Met l g (yX12_law, cX12_law, 3, (some .int)) (d + 12) 0 [.ref (g.1 + 119)] h (some (.int c)) h1 := by
  refine qt_Met.of (plainFor_of_name (by decide)) (Nat.le_of_ble_eq_true rfl) ?_
  have G : qg_i (some (.int c)) h1 ((c, h1)) := ⟨rfl, rfl⟩
  unfold m_X12_law at E
  refine qt_aload_n 0 dX12_law_0 rfl rfl ?_
  refine qt_getI (wl_119 h) fe_RX12_382 rfl dX12_law_1 ?_
  refine qt_iconst dX12_law_4 ci_4 ?_
  refine qt_icmp_ne 10 dX12_law_5 (by decide) E (fun E => ?_) (fun E => ?_)
  · refine qt_aload_n 0 dX12_law_10 rfl rfl ?_
    refine qt_aload_n 0 dX12_law_11 rfl rfl ?_
    refine qt_getI (wl_119 h) fe_RX12_382 rfl dX12_law_12 ?_
    refine qt_putI (wl_119 h) fd_RX12_270 rfl rfl rfl dX12_law_15 E (fun h15 E => ?_)
    refine qt_aload_n 0 dX12_law_18 rfl rfl ?_
    obtain ⟨h19, e19, E⟩ := qbv_el E
    refine qt_callVv (b2 := 0) [] (c_X12_starts h15 e19) cv_RX12_363 (wl_119 h15) rfl rfl rfl (Nat.le_of_ble_eq_true rfl) (Nat.le_of_ble_eq_true rfl) dX12_law_19 ?_
    refine qt_iconst dX12_law_22 ci_0 ?_
    refine qt_istore_n (fun v23 => [(1, .int v23), (0, .ref (g.1 + 119))]) dX12_law_23 rfl (Nat.le_of_ble_eq_true rfl) (fun _ => rfl) E (fun v23 E => ?_)
    refine qt_iconst dX12_law_24 ci_1 ?_
    refine qt_istore_n (fun v25 => [(2, .int v25), (1, .int v23), (0, .ref (g.1 + 119))]) dX12_law_25 rfl (Nat.le_of_ble_eq_true rfl) (fun _ => rfl) E (fun v25 E => ?_)
    exact qt_sub _ [2, 1, 0] rfl ((s_X12_law_b26_loop v23 v25 h19 E G))
  · refine qt_iconst dX12_law_8 ci_m1 ?_
    exact qt_ireturn rfl (Nat.le_of_ble_eq_true rfl) dX12_law_9 E G
noncomputable def m_X12_isLaw (x1 : Int32) (h : qa_M) : Option (Int32 × qa_M) :=
  qbn (m_X12_in x1.toInt64 (0 : Int64) (((h.1 119 24) - (1 : Int32)).toInt64) h) (fun (c10 : Int32) (h10 : qa_M) =>
  qpr (c10 = 0 ∨ c10 = 1) (
  some (c10, h10)))
set_option maxRecDepth 20000 in
theorem c_X12_isLaw {l : Launch} {g : qa_G} {d : Nat} (x1 : Int32) (h : qa_M) {c : Int32} {h1 : qa_M} (E : m_X12_isLaw x1 h = some (c, h1)) : qt_Met l g (yX12_isLaw, cX12_isLaw, 2, (some .boolean)) (d + 1) 0 [.ref (g.1 + 119), .int x1] h (some (.int c)) h1 := by
  refine qt_Met.of (plainFor_of_name (by decide)) (Nat.le_of_ble_eq_true rfl) ?_
  have G : qg_i (some (.int c)) h1 ((c, h1)) := ⟨rfl, rfl⟩
  unfold m_X12_isLaw at E
  refine qt_iload_n 1 dX12_isLaw_0 rfl rfl ?_
  refine qt_i2l dX12_isLaw_1 ?_
  refine qt_lconst dX12_isLaw_2 cl_0 ?_
  refine qt_aload_n 0 dX12_isLaw_3 rfl rfl ?_
  refine qt_getI (wl_119 h) fe_RX12_382 rfl dX12_isLaw_4 ?_
  refine qt_iconst dX12_isLaw_7 ci_1 ?_
  refine qt_isub dX12_isLaw_8 ?_
  refine qt_i2l dX12_isLaw_9 ?_
  obtain ⟨c10, h10, e10, E⟩ := qbn_el E
  refine qt_callSi (b2 := 0) [.long x1.toInt64, .long (0 : Int64), .long (((h.1 119 24) - (1 : Int32)).toInt64)] (c_X12_in x1.toInt64 (0 : Int64) (((h.1 119 24) - (1 : Int32)).toInt64) h e10) cv_RX12_161 rfl (Nat.le_of_ble_eq_true rfl) (Nat.le_of_ble_eq_true rfl) dX12_isLaw_10 ?_
  obtain ⟨z13, E⟩ := qpr_el E
  exact qt_zreturn rfl z13 (Nat.le_of_ble_eq_true rfl) dX12_isLaw_13 E G
noncomputable def f_X12_stands_b16 (x1 : Int32) (h : qa_M) : Option (Int32 × qa_M) :=
  qck (6 : Int32) 8 (
  qbd ((h.1 120 (6 : Int32).toNatClampNeg) - (1 : Int32)) (fun v25 : Int32 =>
  qck (6 : Int32) 8 (
  qbd (qw_I h 120 (6 : Int32).toNatClampNeg (x1 + (1 : Int32))) (fun h35 : qa_M =>
  some (v25, h35)))))
set_option maxRecDepth 20000 in
theorem s_X12_stands_b16 {l : Launch} {g : qa_G} {d : Nat} {rz : Option Value} {hz : qa_M} (x1 : Int32) (h : qa_M) {z : (Int32 × qa_M)} (E : f_X12_stands_b16 x1 h = some z) (G : (qg_i rz hz) z) : qt_At l g (yX12_stands, cX12_stands, 3, (some .int)) (d + 2) 0 0 16 [(0, .ref (g.1 + 119)), (1, .int x1)] [] h rz hz := by
  unfold f_X12_stands_b16 at E
  refine qt_aload_n 0 dX12_stands_16 rfl rfl ?_
  refine qt_getS 120 (wl_119 h) fe_RX12_7 rfl dX12_stands_17 ?_
  refine qt_bipush dX12_stands_20 cb_6 ?_
  refine qt_iald (wl_120 h) dX12_stands_22 E (fun E => ?_)
  refine qt_iconst dX12_stands_23 ci_1 ?_
  refine qt_isub dX12_stands_24 ?_
  refine qt_istore_n (fun v25 => [(2, .int v25), (0, .ref (g.1 + 119)), (1, .int x1)]) dX12_stands_25 rfl (Nat.le_of_ble_eq_true rfl) (fun _ => rfl) E (fun v25 E => ?_)
  refine qt_aload_n 1 dX12_stands_26 rfl rfl ?_
  refine qt_getS 120 (wl_119 h) fe_RX12_7 rfl dX12_stands_27 ?_
  refine qt_bipush dX12_stands_30 cb_6 ?_
  refine qt_iload_n 2 dX12_stands_32 rfl rfl ?_
  refine qt_iconst dX12_stands_33 ci_1 ?_
  refine qt_iadd dX12_stands_34 ?_
  refine qt_iast (wl_120 h) dX12_stands_35 E (fun h35 E => ?_)
  refine qt_iload_n 0 dX12_stands_36 rfl rfl ?_
  exact qt_ireturn rfl (Nat.le_of_ble_eq_true rfl) dX12_stands_37 E G
noncomputable def m_X12_stands (x1 : Int32) (h : qa_M) : Option (Int32 × qa_M) :=
  if x1 = (-1 : Int32) then (
   f_X12_stands_b16 x1 h)
  else (
   qbn (m_X12_isLaw x1 h) (fun (c7 : Int32) (h7 : qa_M) =>
   if c7 = 0 then (
    some ((-2 : Int32), h7))
   else (
    f_X12_stands_b16 x1 h7)))
set_option maxRecDepth 20000 in
theorem c_X12_stands {l : Launch} {g : qa_G} {d : Nat} (x1 : Int32) (h : qa_M) {c : Int32} {h1 : qa_M} (E : m_X12_stands x1 h = some (c, h1)) : qt_Met l g (yX12_stands, cX12_stands, 3, (some .int)) (d + 2) 0 [.ref (g.1 + 119), .int x1] h (some (.int c)) h1 := by
  refine qt_Met.of (plainFor_of_name (by decide)) (Nat.le_of_ble_eq_true rfl) ?_
  have G : qg_i (some (.int c)) h1 ((c, h1)) := ⟨rfl, rfl⟩
  unfold m_X12_stands at E
  refine qt_iload_n 1 dX12_stands_0 rfl rfl ?_
  refine qt_iconst dX12_stands_1 ci_m1 ?_
  refine qt_icmp_eq 16 dX12_stands_2 (by decide) E (fun E => ?_) (fun E => ?_)
  · exact qt_sub _ [0, 1] rfl ((s_X12_stands_b16 x1 h E G))
  · refine qt_aload_n 0 dX12_stands_5 rfl rfl ?_
    refine qt_iload_n 1 dX12_stands_6 rfl rfl ?_
    obtain ⟨c7, h7, e7, E⟩ := qbn_el E
    refine qt_callVi (b2 := 0) [.int x1] (c_X12_isLaw x1 h e7) cv_RX12_395 (wl_119 h) rfl rfl rfl (Nat.le_of_ble_eq_true rfl) (Nat.le_of_ble_eq_true rfl) dX12_stands_7 ?_
    refine qt_if_ne 16 dX12_stands_10 (by decide) E (fun E => ?_) (fun E => ?_)
    · exact qt_sub _ [0, 1] rfl ((s_X12_stands_b16 x1 h7 E G))
    · refine qt_bipush dX12_stands_13 cb_m2 ?_
      exact qt_ireturn rfl (Nat.le_of_ble_eq_true rfl) dX12_stands_15 E G
noncomputable def m_X12_isLand (h : qa_M) : Option (Int32 × qa_M) :=
  qck (0 : Int32) 8 (
  if (h.1 120 (0 : Int32).toNatClampNeg) ≤ 0 then (
   some ((0 : Int32), h))
  else (
   some ((1 : Int32), h)))
set_option maxRecDepth 20000 in
theorem c_X12_isLand {l : Launch} {g : qa_G} {d : Nat} (h : qa_M) {c : Int32} {h1 : qa_M} (E : m_X12_isLand h = some (c, h1)) : qt_Met l g (yX12_isLand, cX12_isLand, 1, (some .boolean)) d 0 [.ref (g.1 + 119)] h (some (.int c)) h1 := by
  refine qt_Met.of (plainFor_of_name (by decide)) (Nat.le_of_ble_eq_true rfl) ?_
  have G : qg_i (some (.int c)) h1 ((c, h1)) := ⟨rfl, rfl⟩
  unfold m_X12_isLand at E
  refine qt_aload_n 0 dX12_isLand_0 rfl rfl ?_
  refine qt_getS 120 (wl_119 h) fe_RX12_7 rfl dX12_isLand_1 ?_
  refine qt_iconst dX12_isLand_4 ci_0 ?_
  refine qt_iald (wl_120 h) dX12_isLand_5 E (fun E => ?_)
  refine qt_if_le 13 dX12_isLand_6 (by decide) E (fun E => ?_) (fun E => ?_)
  · refine qt_iconst dX12_isLand_13 ci_0 ?_
    exact qt_zreturn rfl (Or.inl rfl) (Nat.le_of_ble_eq_true rfl) dX12_isLand_14 E G
  · refine qt_iconst dX12_isLand_9 ci_1 ?_
    refine qt_goto 14 dX12_isLand_10 (by decide) ?_
    exact qt_zreturn rfl (Or.inr rfl) (Nat.le_of_ble_eq_true rfl) dX12_isLand_14 E G
noncomputable def m_X12_isSort (x1 : Int32) (h : qa_M) : Option (Int32 × qa_M) :=
  qck (4 : Int32) 8 (
  qbn (m_X12_in x1.toInt64 (0 : Int64) (((h.1 120 (4 : Int32).toNatClampNeg) - (1 : Int32)).toInt64) h) (fun (c12 : Int32) (h12 : qa_M) =>
  qpr (c12 = 0 ∨ c12 = 1) (
  some (c12, h12))))
set_option maxRecDepth 20000 in
theorem c_X12_isSort {l : Launch} {g : qa_G} {d : Nat} (x1 : Int32) (h : qa_M) {c : Int32} {h1 : qa_M} (E : m_X12_isSort x1 h = some (c, h1)) : qt_Met l g (yX12_isSort, cX12_isSort, 2, (some .boolean)) (d + 1) 0 [.ref (g.1 + 119), .int x1] h (some (.int c)) h1 := by
  refine qt_Met.of (plainFor_of_name (by decide)) (Nat.le_of_ble_eq_true rfl) ?_
  have G : qg_i (some (.int c)) h1 ((c, h1)) := ⟨rfl, rfl⟩
  unfold m_X12_isSort at E
  refine qt_iload_n 1 dX12_isSort_0 rfl rfl ?_
  refine qt_i2l dX12_isSort_1 ?_
  refine qt_lconst dX12_isSort_2 cl_0 ?_
  refine qt_aload_n 0 dX12_isSort_3 rfl rfl ?_
  refine qt_getS 120 (wl_119 h) fe_RX12_7 rfl dX12_isSort_4 ?_
  refine qt_iconst dX12_isSort_7 ci_4 ?_
  refine qt_iald (wl_120 h) dX12_isSort_8 E (fun E => ?_)
  refine qt_iconst dX12_isSort_9 ci_1 ?_
  refine qt_isub dX12_isSort_10 ?_
  refine qt_i2l dX12_isSort_11 ?_
  obtain ⟨c12, h12, e12, E⟩ := qbn_el E
  refine qt_callSi (b2 := 0) [.long x1.toInt64, .long (0 : Int64), .long (((h.1 120 (4 : Int32).toNatClampNeg) - (1 : Int32)).toInt64)] (c_X12_in x1.toInt64 (0 : Int64) (((h.1 120 (4 : Int32).toNatClampNeg) - (1 : Int32)).toInt64) h e12) cv_RX12_161 rfl (Nat.le_of_ble_eq_true rfl) (Nat.le_of_ble_eq_true rfl) dX12_isSort_12 ?_
  obtain ⟨z15, E⟩ := qpr_el E
  exact qt_zreturn rfl z15 (Nat.le_of_ble_eq_true rfl) dX12_isSort_15 E G
noncomputable def f_X12_note_b60 (x1 : Int32) (x2 : Int32) (x3 : Int32) (x4 : Int32) (x5 : Int32) (x6 : Int32) (s0 : Int64) (s1 : Int64) (s3 : Int32) (h : qa_M) : Option (Int32 × qa_M) :=
  qck s3 8 (
  qbn (m_X12_in s0 s1 (((h.1 120 s3.toNatClampNeg) - (1 : Int32)).toInt64) h) (fun (c64 : Int32) (h64 : qa_M) =>
  if c64 = 0 then (
   some ((-1 : Int32), h64))
  else (
   qbn (m_X12_isSort x4 h64) (fun (c73 : Int32) (h73 : qa_M) =>
   if c73 = 0 then (
    some ((-1 : Int32), h73))
   else (
    qbn (m_X12_in x5.toInt64 (-1 : Int64) (3 : Int64) h73) (fun (c88 : Int32) (h88 : qa_M) =>
    if c88 = 0 then (
     some ((-1 : Int32), h88))
    else (
     qck x6 10 (
     qbd (qw_I h88 127 x6.toNatClampNeg x1) (fun h103 : qa_M =>
     qck x6 10 (
     qbd (qw_I h103 128 x6.toNatClampNeg x2) (fun h111 : qa_M =>
     qck x6 10 (
     qbd (qw_I h111 129 x6.toNatClampNeg x3) (fun h119 : qa_M =>
     qck x6 10 (
     qbd (qw_I h119 130 x6.toNatClampNeg x4) (fun h128 : qa_M =>
     qck x6 10 (
     qbd (qw_I h128 131 x6.toNatClampNeg x5) (fun h137 : qa_M =>
     qck (5 : Int32) 8 (
     qck (5 : Int32) 8 (
     qbd (qw_I h137 120 (5 : Int32).toNatClampNeg ((h137.1 120 (5 : Int32).toNatClampNeg) + (1 : Int32))) (fun h147 : qa_M =>
     some (x6, h147)))))))))))))))))))))
set_option maxRecDepth 20000 in
theorem s_X12_note_b60 {l : Launch} {g : qa_G} {d : Nat} {rz : Option Value} {hz : qa_M} (x1 : Int32) (x2 : Int32) (x3 : Int32) (x4 : Int32) (x5 : Int32) (x6 : Int32) (s0 : Int64) (s1 : Int64) (s3 : Int32) (h : qa_M) {z : (Int32 × qa_M)} (E : f_X12_note_b60 x1 x2 x3 x4 x5 x6 s0 s1 s3 h = some z) (G : (qg_i rz hz) z) : qt_At l g (yX12_note, cX12_note, 7, (some .int)) (d + 2) 0 0 60 [(0, .ref (g.1 + 119)), (1, .int x1), (2, .int x2), (3, .int x3), (4, .int x4), (5, .int x5), (6, .int x6)] [.int s3, .ref (g.1 + 120), .long s1, .long s0] h rz hz := by
  unfold f_X12_note_b60 at E
  refine qt_iald (wl_120 h) dX12_note_60 E (fun E => ?_)
  refine qt_iconst dX12_note_61 ci_1 ?_
  refine qt_isub dX12_note_62 ?_
  refine qt_i2l dX12_note_63 ?_
  obtain ⟨c64, h64, e64, E⟩ := qbn_el E
  refine qt_callSi (b2 := 0) [.long s0, .long s1, .long (((h.1 120 s3.toNatClampNeg) - (1 : Int32)).toInt64)] (c_X12_in s0 s1 (((h.1 120 s3.toNatClampNeg) - (1 : Int32)).toInt64) h e64) cv_RX12_161 rfl (Nat.le_of_ble_eq_true rfl) (Nat.le_of_ble_eq_true rfl) dX12_note_64 ?_
  refine qt_if_eq 94 dX12_note_67 (by decide) E (fun E => ?_) (fun E => ?_)
  · refine qt_iconst dX12_note_94 ci_m1 ?_
    exact qt_ireturn rfl (Nat.le_of_ble_eq_true rfl) dX12_note_95 E G
  · refine qt_aload_n 0 dX12_note_70 rfl rfl ?_
    refine qt_iload 4 dX12_note_71 rfl ?_
    obtain ⟨c73, h73, e73, E⟩ := qbn_el E
    refine qt_callVi (b2 := 0) [.int x4] (c_X12_isSort x4 h64 e73) cv_RX12_410 (wl_119 h64) rfl rfl rfl (Nat.le_of_ble_eq_true rfl) (Nat.le_of_ble_eq_true rfl) dX12_note_73 ?_
    refine qt_if_eq 94 dX12_note_76 (by decide) E (fun E => ?_) (fun E => ?_)
    · refine qt_iconst dX12_note_94 ci_m1 ?_
      exact qt_ireturn rfl (Nat.le_of_ble_eq_true rfl) dX12_note_95 E G
    · refine qt_iload 5 dX12_note_79 rfl ?_
      refine qt_i2l dX12_note_81 ?_
      refine qt_ldc2 tb_1572 dX12_note_82 ?_
      refine qt_ldc2 tb_1808 dX12_note_85 ?_
      obtain ⟨c88, h88, e88, E⟩ := qbn_el E
      refine qt_callSi (b2 := 0) [.long x5.toInt64, .long (-1 : Int64), .long (3 : Int64)] (c_X12_in x5.toInt64 (-1 : Int64) (3 : Int64) h73 e88) cv_RX12_161 rfl (Nat.le_of_ble_eq_true rfl) (Nat.le_of_ble_eq_true rfl) dX12_note_88 ?_
      refine qt_if_ne 96 dX12_note_91 (by decide) E (fun E => ?_) (fun E => ?_)
      · refine qt_aload_n 0 dX12_note_96 rfl rfl ?_
        refine qt_getS 127 (wl_119 h88) fe_RX12_31 rfl dX12_note_97 ?_
        refine qt_iload 6 dX12_note_100 rfl ?_
        refine qt_iload_n 1 dX12_note_102 rfl rfl ?_
        refine qt_iast (wl_127 h88) dX12_note_103 E (fun h103 E => ?_)
        refine qt_aload_n 0 dX12_note_104 rfl rfl ?_
        refine qt_getS 128 (wl_119 h103) fe_RX12_34 rfl dX12_note_105 ?_
        refine qt_iload 6 dX12_note_108 rfl ?_
        refine qt_iload_n 2 dX12_note_110 rfl rfl ?_
        refine qt_iast (wl_128 h103) dX12_note_111 E (fun h111 E => ?_)
        refine qt_aload_n 0 dX12_note_112 rfl rfl ?_
        refine qt_getS 129 (wl_119 h111) fe_RX12_37 rfl dX12_note_113 ?_
        refine qt_iload 6 dX12_note_116 rfl ?_
        refine qt_iload_n 3 dX12_note_118 rfl rfl ?_
        refine qt_iast (wl_129 h111) dX12_note_119 E (fun h119 E => ?_)
        refine qt_aload_n 0 dX12_note_120 rfl rfl ?_
        refine qt_getS 130 (wl_119 h119) fe_RX12_40 rfl dX12_note_121 ?_
        refine qt_iload 6 dX12_note_124 rfl ?_
        refine qt_iload 4 dX12_note_126 rfl ?_
        refine qt_iast (wl_130 h119) dX12_note_128 E (fun h128 E => ?_)
        refine qt_aload_n 0 dX12_note_129 rfl rfl ?_
        refine qt_getS 131 (wl_119 h128) fe_RX12_43 rfl dX12_note_130 ?_
        refine qt_iload 6 dX12_note_133 rfl ?_
        refine qt_iload 5 dX12_note_135 rfl ?_
        refine qt_iast (wl_131 h128) dX12_note_137 E (fun h137 E => ?_)
        refine qt_aload_n 0 dX12_note_138 rfl rfl ?_
        refine qt_getS 120 (wl_119 h137) fe_RX12_7 rfl dX12_note_139 ?_
        refine qt_iconst dX12_note_142 ci_5 ?_
        refine qt_dup2_11 dX12_note_143 rfl rfl ?_
        refine qt_iald (wl_120 h137) dX12_note_144 E (fun E => ?_)
        refine qt_iconst dX12_note_145 ci_1 ?_
        refine qt_iadd dX12_note_146 ?_
        refine qt_iast (wl_120 h137) dX12_note_147 E (fun h147 E => ?_)
        refine qt_iload 6 dX12_note_148 rfl ?_
        exact qt_ireturn rfl (Nat.le_of_ble_eq_true rfl) dX12_note_150 E G
      · refine qt_iconst dX12_note_94 ci_m1 ?_
        exact qt_ireturn rfl (Nat.le_of_ble_eq_true rfl) dX12_note_95 E G
noncomputable def m_X12_note (x1 : Int32) (x2 : Int32) (x3 : Int32) (x4 : Int32) (x5 : Int32) (h : qa_M) : Option (Int32 × qa_M) :=
  qck (5 : Int32) 8 (
  qbd (h.1 120 (5 : Int32).toNatClampNeg) (fun v6 : Int32 =>
  qbn (m_X12_isLand h) (fun (c9 : Int32) (h9 : qa_M) =>
  if c9 = 0 then (
   some ((-1 : Int32), h9))
  else (
   if v6 = (10 : Int32) then (
    some ((-1 : Int32), h9))
   else (
    qbn (m_X12_in x1.toInt64 (0 : Int64) (5 : Int64) h9) (fun (c28 : Int32) (h28 : qa_M) =>
    if c28 = 0 then (
     some ((-1 : Int32), h28))
    else (
     qbn (m_X12_in x2.toInt64 (0 : Int64) (1 : Int64) h28) (fun (c38 : Int32) (h38 : qa_M) =>
     if c38 = 0 then (
      some ((-1 : Int32), h38))
     else (
      if x2 = 0 then (
       f_X12_note_b60 x1 x2 x3 x4 x5 v6 x3.toInt64 (0 : Int64) (2 : Int32) h38)
      else (
       f_X12_note_b60 x1 x2 x3 x4 x5 v6 x3.toInt64 (0 : Int64) (3 : Int32) h38))))))))))
set_option maxRecDepth 20000 in
theorem c_X12_note {l : Launch} {g : qa_G} {d : Nat} (x1 : Int32) (x2 : Int32) (x3 : Int32) (x4 : Int32) (x5 : Int32) (h : qa_M) {c : Int32} {h1 : qa_M} (E : m_X12_note x1 x2 x3 x4 x5 h = some (c, h1)) : qt_Met l g (yX12_note, cX12_note, 7, (some .int)) (d + 2) 0 [.ref (g.1 + 119), .int x1, .int x2, .int x3, .int x4, .int x5] h (some (.int c)) h1 := by
  refine qt_Met.of (plainFor_of_name (by decide)) (Nat.le_of_ble_eq_true rfl) ?_
  have G : qg_i (some (.int c)) h1 ((c, h1)) := ⟨rfl, rfl⟩
  unfold m_X12_note at E
  refine qt_aload_n 0 dX12_note_0 rfl rfl ?_
  refine qt_getS 120 (wl_119 h) fe_RX12_7 rfl dX12_note_1 ?_
  refine qt_iconst dX12_note_4 ci_5 ?_
  refine qt_iald (wl_120 h) dX12_note_5 E (fun E => ?_)
  refine qt_istore (fun v6 => [(6, .int v6), (0, .ref (g.1 + 119)), (1, .int x1), (2, .int x2), (3, .int x3), (4, .int x4), (5, .int x5)]) dX12_note_6 (Nat.le_of_ble_eq_true rfl) (fun _ => rfl) E (fun v6 E => ?_)
  refine qt_aload_n 1 dX12_note_8 rfl rfl ?_
  obtain ⟨c9, h9, e9, E⟩ := qbn_el E
  refine qt_callVi (b2 := 0) [] (c_X12_isLand h e9) cv_RX12_203 (wl_119 h) rfl rfl rfl (Nat.le_of_ble_eq_true rfl) (Nat.le_of_ble_eq_true rfl) dX12_note_9 ?_
  refine qt_if_eq 94 dX12_note_12 (by decide) E (fun E => ?_) (fun E => ?_)
  · refine qt_iconst dX12_note_94 ci_m1 ?_
    exact qt_ireturn rfl (Nat.le_of_ble_eq_true rfl) dX12_note_95 E G
  · refine qt_iload 0 dX12_note_15 rfl ?_
    refine qt_bipush dX12_note_17 cb_10 ?_
    refine qt_icmp_eq 94 dX12_note_19 (by decide) E (fun E => ?_) (fun E => ?_)
    · refine qt_iconst dX12_note_94 ci_m1 ?_
      exact qt_ireturn rfl (Nat.le_of_ble_eq_true rfl) dX12_note_95 E G
    · refine qt_iload_n 2 dX12_note_22 rfl rfl ?_
      refine qt_i2l dX12_note_23 ?_
      refine qt_lconst dX12_note_24 cl_0 ?_
      refine qt_ldc2 tb_1762 dX12_note_25 ?_
      obtain ⟨c28, h28, e28, E⟩ := qbn_el E
      refine qt_callSi (b2 := 0) [.long x1.toInt64, .long (0 : Int64), .long (5 : Int64)] (c_X12_in x1.toInt64 (0 : Int64) (5 : Int64) h9 e28) cv_RX12_161 rfl (Nat.le_of_ble_eq_true rfl) (Nat.le_of_ble_eq_true rfl) dX12_note_28 ?_
      refine qt_if_eq 94 dX12_note_31 (by decide) E (fun E => ?_) (fun E => ?_)
      · refine qt_iconst dX12_note_94 ci_m1 ?_
        exact qt_ireturn rfl (Nat.le_of_ble_eq_true rfl) dX12_note_95 E G
      · refine qt_iload_n 3 dX12_note_34 rfl rfl ?_
        refine qt_i2l dX12_note_35 ?_
        refine qt_lconst dX12_note_36 cl_0 ?_
        refine qt_lconst dX12_note_37 cl_1 ?_
        obtain ⟨c38, h38, e38, E⟩ := qbn_el E
        refine qt_callSi (b2 := 0) [.long x2.toInt64, .long (0 : Int64), .long (1 : Int64)] (c_X12_in x2.toInt64 (0 : Int64) (1 : Int64) h28 e38) cv_RX12_161 rfl (Nat.le_of_ble_eq_true rfl) (Nat.le_of_ble_eq_true rfl) dX12_note_38 ?_
        refine qt_if_eq 94 dX12_note_41 (by decide) E (fun E => ?_) (fun E => ?_)
        · refine qt_iconst dX12_note_94 ci_m1 ?_
          exact qt_ireturn rfl (Nat.le_of_ble_eq_true rfl) dX12_note_95 E G
        · refine qt_iload_n 4 dX12_note_44 rfl rfl ?_
          refine qt_i2l dX12_note_45 ?_
          refine qt_lconst dX12_note_46 cl_0 ?_
          refine qt_aload_n 1 dX12_note_47 rfl rfl ?_
          refine qt_getS 120 (wl_119 h38) fe_RX12_7 rfl dX12_note_48 ?_
          refine qt_iload_n 3 dX12_note_51 rfl rfl ?_
          refine qt_if_ne 59 dX12_note_52 (by decide) E (fun E => ?_) (fun E => ?_)
          · refine qt_iconst dX12_note_59 ci_3 ?_
            exact qt_sub _ [1, 2, 3, 4, 5, 6, 0] rfl ((s_X12_note_b60 x1 x2 x3 x4 x5 v6 x3.toInt64 (0 : Int64) (3 : Int32) h38 E G))
          · refine qt_iconst dX12_note_55 ci_2 ?_
            refine qt_goto 60 dX12_note_56 (by decide) ?_
            exact qt_sub _ [1, 2, 3, 4, 5, 6, 0] rfl ((s_X12_note_b60 x1 x2 x3 x4 x5 v6 x3.toInt64 (0 : Int64) (2 : Int32) h38 E G))
noncomputable def m_X12_isSquare (x1 : Int32) (x2 : Int32) (h : qa_M) : Option (Int32 × qa_M) :=
  qck (0 : Int32) 8 (
  qbn (m_X12_in x1.toInt64 (0 : Int64) (((h.1 120 (0 : Int32).toNatClampNeg) - (1 : Int32)).toInt64) h) (fun (c12 : Int32) (h12 : qa_M) =>
  if c12 = 0 then (
   some ((0 : Int32), h12))
  else (
   qck (1 : Int32) 8 (
   qbn (m_X12_in x2.toInt64 (0 : Int64) (((h12.1 120 (1 : Int32).toNatClampNeg) - (1 : Int32)).toInt64) h12) (fun (c30 : Int32) (h30 : qa_M) =>
   if c30 = 0 then (
    some ((0 : Int32), h30))
   else (
    some ((1 : Int32), h30)))))))
set_option maxRecDepth 20000 in
theorem c_X12_isSquare {l : Launch} {g : qa_G} {d : Nat} (x1 : Int32) (x2 : Int32) (h : qa_M) {c : Int32} {h1 : qa_M} (E : m_X12_isSquare x1 x2 h = some (c, h1)) : qt_Met l g (yX12_isSquare, cX12_isSquare, 3, (some .boolean)) (d + 1) 0 [.ref (g.1 + 119), .int x1, .int x2] h (some (.int c)) h1 := by
  refine qt_Met.of (plainFor_of_name (by decide)) (Nat.le_of_ble_eq_true rfl) ?_
  have G : qg_i (some (.int c)) h1 ((c, h1)) := ⟨rfl, rfl⟩
  unfold m_X12_isSquare at E
  refine qt_iload_n 1 dX12_isSquare_0 rfl rfl ?_
  refine qt_i2l dX12_isSquare_1 ?_
  refine qt_lconst dX12_isSquare_2 cl_0 ?_
  refine qt_aload_n 0 dX12_isSquare_3 rfl rfl ?_
  refine qt_getS 120 (wl_119 h) fe_RX12_7 rfl dX12_isSquare_4 ?_
  refine qt_iconst dX12_isSquare_7 ci_0 ?_
  refine qt_iald (wl_120 h) dX12_isSquare_8 E (fun E => ?_)
  refine qt_iconst dX12_isSquare_9 ci_1 ?_
  refine qt_isub dX12_isSquare_10 ?_
  refine qt_i2l dX12_isSquare_11 ?_
  obtain ⟨c12, h12, e12, E⟩ := qbn_el E
  refine qt_callSi (b2 := 0) [.long x1.toInt64, .long (0 : Int64), .long (((h.1 120 (0 : Int32).toNatClampNeg) - (1 : Int32)).toInt64)] (c_X12_in x1.toInt64 (0 : Int64) (((h.1 120 (0 : Int32).toNatClampNeg) - (1 : Int32)).toInt64) h e12) cv_RX12_161 rfl (Nat.le_of_ble_eq_true rfl) (Nat.le_of_ble_eq_true rfl) dX12_isSquare_12 ?_
  refine qt_if_eq 40 dX12_isSquare_15 (by decide) E (fun E => ?_) (fun E => ?_)
  · refine qt_iconst dX12_isSquare_40 ci_0 ?_
    exact qt_zreturn rfl (Or.inl rfl) (Nat.le_of_ble_eq_true rfl) dX12_isSquare_41 E G
  · refine qt_iload_n 2 dX12_isSquare_18 rfl rfl ?_
    refine qt_i2l dX12_isSquare_19 ?_
    refine qt_lconst dX12_isSquare_20 cl_0 ?_
    refine qt_aload_n 0 dX12_isSquare_21 rfl rfl ?_
    refine qt_getS 120 (wl_119 h12) fe_RX12_7 rfl dX12_isSquare_22 ?_
    refine qt_iconst dX12_isSquare_25 ci_1 ?_
    refine qt_iald (wl_120 h12) dX12_isSquare_26 E (fun E => ?_)
    refine qt_iconst dX12_isSquare_27 ci_1 ?_
    refine qt_isub dX12_isSquare_28 ?_
    refine qt_i2l dX12_isSquare_29 ?_
    obtain ⟨c30, h30, e30, E⟩ := qbn_el E
    refine qt_callSi (b2 := 0) [.long x2.toInt64, .long (0 : Int64), .long (((h12.1 120 (1 : Int32).toNatClampNeg) - (1 : Int32)).toInt64)] (c_X12_in x2.toInt64 (0 : Int64) (((h12.1 120 (1 : Int32).toNatClampNeg) - (1 : Int32)).toInt64) h12 e30) cv_RX12_161 rfl (Nat.le_of_ble_eq_true rfl) (Nat.le_of_ble_eq_true rfl) dX12_isSquare_30 ?_
    refine qt_if_eq 40 dX12_isSquare_33 (by decide) E (fun E => ?_) (fun E => ?_)
    · refine qt_iconst dX12_isSquare_40 ci_0 ?_
      exact qt_zreturn rfl (Or.inl rfl) (Nat.le_of_ble_eq_true rfl) dX12_isSquare_41 E G
    · refine qt_iconst dX12_isSquare_36 ci_1 ?_
      refine qt_goto 41 dX12_isSquare_37 (by decide) ?_
      exact qt_zreturn rfl (Or.inr rfl) (Nat.le_of_ble_eq_true rfl) dX12_isSquare_41 E G
noncomputable def f_X12_hillOn_b2 (x1 : Int32) (x2 : Int32) (h : qa_M) : Option ((Int32 × Int32 × qa_M) ⊕ (Int32 × qa_M)) :=
  qck (2 : Int32) 8 (
  if (h.1 120 (2 : Int32).toNatClampNeg) ≤ x2 then (
   qup (some ((-1 : Int32), h)))
  else (
   qck x2 8 (
   if (h.1 122 x2.toNatClampNeg) = x1 then (
    qup (some (x2, h)))
   else (
    qbd (x2 + (1 : Int32)) (fun v24 : Int32 =>
    some (.inl (x1, v24, h)))))))
set_option maxRecDepth 20000 in
theorem s_X12_hillOn_b2 {l : Launch} {g : qa_G} {d : Nat} {rz : Option Value} {hz : qa_M} (x1 : Int32) (x2 : Int32) (h : qa_M) {z : ((Int32 × Int32 × qa_M) ⊕ (Int32 × qa_M))} (E : f_X12_hillOn_b2 x1 x2 h = some z) (G : (Sum.elim (fun (sz : Int32 × Int32 × qa_M) => qt_At l g (yX12_hillOn, cX12_hillOn, 3, (some .int)) d 0 0 2 [(0, .ref (g.1 + 119)), (1, .int sz.1), (2, .int sz.2.1)] [] sz.2.2 rz hz) (qg_i rz hz)) z) : qt_At l g (yX12_hillOn, cX12_hillOn, 3, (some .int)) d 0 0 2 [(0, .ref (g.1 + 119)), (1, .int x1), (2, .int x2)] [] h rz hz := by
  unfold f_X12_hillOn_b2 at E
  refine qt_iload_n 2 dX12_hillOn_2 rfl rfl ?_
  refine qt_aload_n 0 dX12_hillOn_3 rfl rfl ?_
  refine qt_getS 120 (wl_119 h) fe_RX12_7 rfl dX12_hillOn_4 ?_
  refine qt_iconst dX12_hillOn_7 ci_2 ?_
  refine qt_iald (wl_120 h) dX12_hillOn_8 E (fun E => ?_)
  refine qt_icmp_ge 30 dX12_hillOn_9 (by decide) E (fun E => ?_) (fun E => ?_)
  · refine qt_iconst dX12_hillOn_30 ci_m1 ?_
    obtain ⟨z0_, E, G⟩ := qup_g E G
    exact qt_ireturn rfl (Nat.le_of_ble_eq_true rfl) dX12_hillOn_31 E G
  · refine qt_aload_n 0 dX12_hillOn_12 rfl rfl ?_
    refine qt_getS 122 (wl_119 h) fe_RX12_16 rfl dX12_hillOn_13 ?_
    refine qt_iload_n 2 dX12_hillOn_16 rfl rfl ?_
    refine qt_iald (wl_122 h) dX12_hillOn_17 E (fun E => ?_)
    refine qt_iload_n 1 dX12_hillOn_18 rfl rfl ?_
    refine qt_icmp_ne 24 dX12_hillOn_19 (by decide) E (fun E => ?_) (fun E => ?_)
    · refine qt_iinc 2 (fun v24 => [(2, .int v24), (0, .ref (g.1 + 119)), (1, .int x1)]) dX12_hillOn_24 rfl ci_1 (Nat.le_of_ble_eq_true rfl) (fun _ => rfl) E (fun v24 E => ?_)
      refine qt_goto 2 dX12_hillOn_27 (by decide) ?_
      cases E
      exact qt_sub _ [1, 2, 0] rfl (G)
    · refine qt_iload_n 2 dX12_hillOn_22 rfl rfl ?_
      obtain ⟨z0_, E, G⟩ := qup_g E G
      exact qt_ireturn rfl (Nat.le_of_ble_eq_true rfl) dX12_hillOn_23 E G
noncomputable def f_X12_hillOn_b2_loop (x1 : Int32) (x2 : Int32) (h : qa_M) : Option (Int32 × qa_M) := qlp (fun sz : Int32 × Int32 × qa_M => f_X12_hillOn_b2 sz.1 sz.2.1 sz.2.2) (x1, x2, h)
theorem s_X12_hillOn_b2_loop {l : Launch} {g : qa_G} {d : Nat} {rz : Option Value} {hz : qa_M} (x1 : Int32) (x2 : Int32) (h : qa_M) {z : (Int32 × qa_M)} (E : f_X12_hillOn_b2_loop x1 x2 h = some z) (G : (qg_i rz hz) z) : qt_At l g (yX12_hillOn, cX12_hillOn, 3, (some .int)) d 0 0 2 [(0, .ref (g.1 + 119)), (1, .int x1), (2, .int x2)] [] h rz hz :=
  qlp_ind (fun sz : Int32 × Int32 × qa_M => qt_At l g (yX12_hillOn, cX12_hillOn, 3, (some .int)) d 0 0 2 [(0, .ref (g.1 + 119)), (1, .int sz.1), (2, .int sz.2.1)] [] sz.2.2 rz hz) (fun sz E => s_X12_hillOn_b2 sz.1 sz.2.1 sz.2.2 E G) (fun sz sz2 E ih => s_X12_hillOn_b2 sz.1 sz.2.1 sz.2.2 E ih) (x1, x2, h) E
noncomputable def m_X12_hillOn (x1 : Int32) (h : qa_M) : Option (Int32 × qa_M) :=
  qbd (0 : Int32) (fun v1 : Int32 =>
  f_X12_hillOn_b2_loop x1 v1 h)
set_option maxRecDepth 20000 in
theorem c_X12_hillOn {l : Launch} {g : qa_G} {d : Nat} (x1 : Int32) (h : qa_M) {c : Int32} {h1 : qa_M} (E : m_X12_hillOn x1 h = some (c, h1)) : qt_Met l g (yX12_hillOn, cX12_hillOn, 3, (some .int)) d 0 [.ref (g.1 + 119), .int x1] h (some (.int c)) h1 := by
  refine qt_Met.of (plainFor_of_name (by decide)) (Nat.le_of_ble_eq_true rfl) ?_
  have G : qg_i (some (.int c)) h1 ((c, h1)) := ⟨rfl, rfl⟩
  unfold m_X12_hillOn at E
  refine qt_iconst dX12_hillOn_0 ci_0 ?_
  refine qt_istore_n (fun v1 => [(2, .int v1), (0, .ref (g.1 + 119)), (1, .int x1)]) dX12_hillOn_1 rfl (Nat.le_of_ble_eq_true rfl) (fun _ => rfl) E (fun v1 E => ?_)
  exact qt_sub _ [1, 2, 0] rfl ((s_X12_hillOn_b2_loop x1 v1 h E G))
noncomputable def m_X12_isWood (x1 : Int32) (h : qa_M) : Option (Int32 × qa_M) :=
  qck x1 36 (
  if (h.1 121 x1.toNatClampNeg) = (1 : Int32) then (
   qbn (m_X12_hillOn x1 h) (fun (c12 : Int32) (h12 : qa_M) =>
   if c12 = (-1 : Int32) then (
    some ((1 : Int32), h12))
   else (
    some ((0 : Int32), h12))))
  else (
   some ((0 : Int32), h)))
set_option maxRecDepth 20000 in
theorem c_X12_isWood {l : Launch} {g : qa_G} {d : Nat} (x1 : Int32) (h : qa_M) {c : Int32} {h1 : qa_M} (E : m_X12_isWood x1 h = some (c, h1)) : qt_Met l g (yX12_isWood, cX12_isWood, 2, (some .boolean)) (d + 1) 0 [.ref (g.1 + 119), .int x1] h (some (.int c)) h1 := by
  refine qt_Met.of (plainFor_of_name (by decide)) (Nat.le_of_ble_eq_true rfl) ?_
  have G : qg_i (some (.int c)) h1 ((c, h1)) := ⟨rfl, rfl⟩
  unfold m_X12_isWood at E
  refine qt_aload_n 0 dX12_isWood_0 rfl rfl ?_
  refine qt_getS 121 (wl_119 h) fe_RX12_13 rfl dX12_isWood_1 ?_
  refine qt_iload_n 1 dX12_isWood_4 rfl rfl ?_
  refine qt_iald (wl_121 h) dX12_isWood_5 E (fun E => ?_)
  refine qt_iconst dX12_isWood_6 ci_1 ?_
  refine qt_icmp_ne 23 dX12_isWood_7 (by decide) E (fun E => ?_) (fun E => ?_)
  · refine qt_iconst dX12_isWood_23 ci_0 ?_
    exact qt_zreturn rfl (Or.inl rfl) (Nat.le_of_ble_eq_true rfl) dX12_isWood_24 E G
  · refine qt_aload_n 0 dX12_isWood_10 rfl rfl ?_
    refine qt_iload_n 1 dX12_isWood_11 rfl rfl ?_
    obtain ⟨c12, h12, e12, E⟩ := qbn_el E
    refine qt_callVi (b2 := 0) [.int x1] (c_X12_hillOn x1 h e12) cv_RX12_169 (wl_119 h) rfl rfl rfl (Nat.le_of_ble_eq_true rfl) (Nat.le_of_ble_eq_true rfl) dX12_isWood_12 ?_
    refine qt_iconst dX12_isWood_15 ci_m1 ?_
    refine qt_icmp_ne 23 dX12_isWood_16 (by decide) E (fun E => ?_) (fun E => ?_)
    · refine qt_iconst dX12_isWood_23 ci_0 ?_
      exact qt_zreturn rfl (Or.inl rfl) (Nat.le_of_ble_eq_true rfl) dX12_isWood_24 E G
    · refine qt_iconst dX12_isWood_19 ci_1 ?_
      refine qt_goto 24 dX12_isWood_20 (by decide) ?_
      exact qt_zreturn rfl (Or.inr rfl) (Nat.le_of_ble_eq_true rfl) dX12_isWood_24 E G
noncomputable def m_X12_without (x0 : Int32) (h : qa_M) : Option (Int32 × qa_M) :=
  if 0 ≤ x0 then (
   some (x0, h))
  else (
   some ((-x0), h))
set_option maxRecDepth 20000 in
theorem c_X12_without {l : Launch} {g : qa_G} {d : Nat} (x0 : Int32) (h : qa_M) {c : Int32} {h1 : qa_M} (E : m_X12_without x0 h = some (c, h1)) : qt_Met l g (yX12_without, cX12_without, 1, (some .int)) d 0 [.int x0] h (some (.int c)) h1 := by
  refine qt_Met.of (plainFor_of_name (by decide)) (Nat.le_of_ble_eq_true rfl) ?_
  have G : qg_i (some (.int c)) h1 ((c, h1)) := ⟨rfl, rfl⟩
  unfold m_X12_without at E
  refine qt_iload_n 0 dX12_without_0 rfl rfl ?_
  refine qt_if_ge 9 dX12_without_1 (by decide) E (fun E => ?_) (fun E => ?_)
  · refine qt_iload_n 0 dX12_without_9 rfl rfl ?_
    exact qt_ireturn rfl (Nat.le_of_ble_eq_true rfl) dX12_without_10 E G
  · refine qt_iload_n 0 dX12_without_4 rfl rfl ?_
    refine qt_ineg dX12_without_5 ?_
    refine qt_goto 10 dX12_without_6 (by decide) ?_
    exact qt_ireturn rfl (Nat.le_of_ble_eq_true rfl) dX12_without_10 E G
noncomputable def m_X12_apartOf (x0 : Int32) (x1 : Int32) (h : qa_M) : Option (Int32 × qa_M) :=
  qbn (m_X12_without ((x0 - x0 / (6 : Int32) * (6 : Int32)) - (x1 - x1 / (6 : Int32) * (6 : Int32))) h) (fun (c9 : Int32) (h9 : qa_M) =>
  qbd c9 (fun v12 : Int32 =>
  qbn (m_X12_without ((x0 / (6 : Int32)) - (x1 / (6 : Int32))) h9) (fun (c22 : Int32) (h22 : qa_M) =>
  qbd c22 (fun v25 : Int32 =>
  if v12 ≤ v25 then (
   some (v25, h22))
  else (
   some (v12, h22))))))
set_option maxRecDepth 20000 in
theorem c_X12_apartOf {l : Launch} {g : qa_G} {d : Nat} (x0 : Int32) (x1 : Int32) (h : qa_M) {c : Int32} {h1 : qa_M} (E : m_X12_apartOf x0 x1 h = some (c, h1)) : qt_Met l g (yX12_apartOf, cX12_apartOf, 4, (some .int)) (d + 1) 0 [.int x0, .int x1] h (some (.int c)) h1 := by
  refine qt_Met.of (plainFor_of_name (by decide)) (Nat.le_of_ble_eq_true rfl) ?_
  have G : qg_i (some (.int c)) h1 ((c, h1)) := ⟨rfl, rfl⟩
  unfold m_X12_apartOf at E
  refine qt_iload_n 0 dX12_apartOf_0 rfl rfl ?_
  refine qt_bipush dX12_apartOf_1 cb_6 ?_
  refine qt_iremK dX12_apartOf_3 (by decide) ?_
  refine qt_iload_n 1 dX12_apartOf_4 rfl rfl ?_
  refine qt_bipush dX12_apartOf_5 cb_6 ?_
  refine qt_iremK dX12_apartOf_7 (by decide) ?_
  refine qt_isub dX12_apartOf_8 ?_
  obtain ⟨c9, h9, e9, E⟩ := qbn_el E
  refine qt_callSi (b2 := 0) [.int ((x0 - x0 / (6 : Int32) * (6 : Int32)) - (x1 - x1 / (6 : Int32) * (6 : Int32)))] (c_X12_without ((x0 - x0 / (6 : Int32) * (6 : Int32)) - (x1 - x1 / (6 : Int32) * (6 : Int32))) h e9) cv_RX12_173 rfl (Nat.le_of_ble_eq_true rfl) (Nat.le_of_ble_eq_true rfl) dX12_apartOf_9 ?_
  refine qt_istore_n (fun v12 => [(2, .int v12), (0, .int x0), (1, .int x1)]) dX12_apartOf_12 rfl (Nat.le_of_ble_eq_true rfl) (fun _ => rfl) E (fun v12 E => ?_)
  refine qt_iload_n 1 dX12_apartOf_13 rfl rfl ?_
  refine qt_bipush dX12_apartOf_14 cb_6 ?_
  refine qt_idivK dX12_apartOf_16 (by decide) ?_
  refine qt_iload_n 2 dX12_apartOf_17 rfl rfl ?_
  refine qt_bipush dX12_apartOf_18 cb_6 ?_
  refine qt_idivK dX12_apartOf_20 (by decide) ?_
  refine qt_isub dX12_apartOf_21 ?_
  obtain ⟨c22, h22, e22, E⟩ := qbn_el E
  refine qt_callSi (b2 := 0) [.int ((x0 / (6 : Int32)) - (x1 / (6 : Int32)))] (c_X12_without ((x0 / (6 : Int32)) - (x1 / (6 : Int32))) h9 e22) cv_RX12_173 rfl (Nat.le_of_ble_eq_true rfl) (Nat.le_of_ble_eq_true rfl) dX12_apartOf_22 ?_
  refine qt_istore_n (fun v25 => [(3, .int v25), (2, .int v12), (0, .int x0), (1, .int x1)]) dX12_apartOf_25 rfl (Nat.le_of_ble_eq_true rfl) (fun _ => rfl) E (fun v25 E => ?_)
  refine qt_iload_n 1 dX12_apartOf_26 rfl rfl ?_
  refine qt_iload_n 0 dX12_apartOf_27 rfl rfl ?_
  refine qt_icmp_le 35 dX12_apartOf_28 (by decide) E (fun E => ?_) (fun E => ?_)
  · refine qt_iload_n 0 dX12_apartOf_35 rfl rfl ?_
    exact qt_ireturn rfl (Nat.le_of_ble_eq_true rfl) dX12_apartOf_36 E G
  · refine qt_iload_n 1 dX12_apartOf_31 rfl rfl ?_
    refine qt_goto 36 dX12_apartOf_32 (by decide) ?_
    exact qt_ireturn rfl (Nat.le_of_ble_eq_true rfl) dX12_apartOf_36 E G
noncomputable def m_X12_floor (x0 : Int32) (x1 : Int32) (h : qa_M) : Option (Int32 × qa_M) :=
  qnz (x1 = 0) (
  if 0 ≤ (x0 - x0 / x1 * x1) then (
   qnz (x1 = 0) (
   some ((x0 / x1), h)))
  else (
   qnz (x1 = 0) (
   some (((x0 / x1) - (1 : Int32)), h))))
set_option maxRecDepth 20000 in
theorem c_X12_floor {l : Launch} {g : qa_G} {d : Nat} (x0 : Int32) (x1 : Int32) (h : qa_M) {c : Int32} {h1 : qa_M} (E : m_X12_floor x0 x1 h = some (c, h1)) : qt_Met l g (yX12_floor, cX12_floor, 2, (some .int)) d 0 [.int x0, .int x1] h (some (.int c)) h1 := by
  refine qt_Met.of (plainFor_of_name (by decide)) (Nat.le_of_ble_eq_true rfl) ?_
  have G : qg_i (some (.int c)) h1 ((c, h1)) := ⟨rfl, rfl⟩
  unfold m_X12_floor at E
  refine qt_iload_n 0 dX12_floor_0 rfl rfl ?_
  refine qt_iload_n 1 dX12_floor_1 rfl rfl ?_
  refine qt_irem dX12_floor_2 E (fun E => ?_)
  refine qt_if_ge 14 dX12_floor_3 (by decide) E (fun E => ?_) (fun E => ?_)
  · refine qt_iload_n 0 dX12_floor_14 rfl rfl ?_
    refine qt_iload_n 1 dX12_floor_15 rfl rfl ?_
    refine qt_idiv dX12_floor_16 E (fun E => ?_)
    exact qt_ireturn rfl (Nat.le_of_ble_eq_true rfl) dX12_floor_17 E G
  · refine qt_iload_n 0 dX12_floor_6 rfl rfl ?_
    refine qt_iload_n 1 dX12_floor_7 rfl rfl ?_
    refine qt_idiv dX12_floor_8 E (fun E => ?_)
    refine qt_iconst dX12_floor_9 ci_1 ?_
    refine qt_isub dX12_floor_10 ?_
    refine qt_goto 17 dX12_floor_11 (by decide) ?_
    exact qt_ireturn rfl (Nat.le_of_ble_eq_true rfl) dX12_floor_17 E G
