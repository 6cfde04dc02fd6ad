noncomputable def f_X0_chooseSecond_b39 (x1 : Int32) (x2 : Int32) (x3 : Int32) (h : qa_M) : Option ((Int32 × Int32 × Int32 × qa_M) ⊕ qa_M) :=
  qbd (x3 + (1 : Int32)) (fun v39 : Int32 =>
  some (.inl (x1, x2, v39, h)))
set_option maxRecDepth 20000 in
theorem s_X0_chooseSecond_b39 {l : Launch} {g : qa_G} {d : Nat} {rz : Option Value} {hz : qa_M} (x1 : Int32) (x2 : Int32) (x3 : Int32) (h : qa_M) {z : ((Int32 × Int32 × Int32 × qa_M) ⊕ qa_M)} (E : f_X0_chooseSecond_b39 x1 x2 x3 h = some z) (G : (Sum.elim (fun (sz : Int32 × Int32 × Int32 × qa_M) => qt_At l g (yX0_chooseSecond, cX0_chooseSecond, 4, none) (d + 2) 0 0 6 [(0, .ref (g.1 + 40)), (1, .int sz.1), (2, .int sz.2.1), (3, .int sz.2.2.1)] [] sz.2.2.2 rz hz) (qg_v rz hz)) z) : qt_At l g (yX0_chooseSecond, cX0_chooseSecond, 4, none) (d + 2) 0 0 39 [(0, .ref (g.1 + 40)), (1, .int x1), (2, .int x2), (3, .int x3)] [] h rz hz := by
  unfold f_X0_chooseSecond_b39 at E
  refine qt_iinc 3 (fun v39 => [(3, .int v39), (0, .ref (g.1 + 40)), (1, .int x1), (2, .int x2)]) dX0_chooseSecond_39 rfl ci_1 (Nat.le_of_ble_eq_true rfl) (fun _ => rfl) E (fun v39 E => ?_)
  refine qt_goto 6 dX0_chooseSecond_42 (by decide) ?_
  cases E
  exact qt_sub _ [1, 2, 3, 0] rfl (G)
noncomputable def f_X0_chooseSecond_b27 (x1 : Int32) (x2 : Int32) (x3 : Int32) (h : qa_M) : Option ((Int32 × Int32 × Int32 × qa_M) ⊕ qa_M) :=
  qbn (m_X0_greatestAfter x1 x2 x3 h) (fun (c33 : Int32) (h33 : qa_M) =>
  qbv (m_X0_choose x3 c33 h33) (fun h36 : qa_M =>
  f_X0_chooseSecond_b39 x1 x2 x3 h36))
set_option maxRecDepth 20000 in
theorem s_X0_chooseSecond_b27 {l : Launch} {g : qa_G} {d : Nat} {rz : Option Value} {hz : qa_M} (x1 : Int32) (x2 : Int32) (x3 : Int32) (h : qa_M) {z : ((Int32 × Int32 × Int32 × qa_M) ⊕ qa_M)} (E : f_X0_chooseSecond_b27 x1 x2 x3 h = some z) (G : (Sum.elim (fun (sz : Int32 × Int32 × Int32 × qa_M) => qt_At l g (yX0_chooseSecond, cX0_chooseSecond, 4, none) (d + 2) 0 0 6 [(0, .ref (g.1 + 40)), (1, .int sz.1), (2, .int sz.2.1), (3, .int sz.2.2.1)] [] sz.2.2.2 rz hz) (qg_v rz hz)) z) : qt_At l g (yX0_chooseSecond, cX0_chooseSecond, 4, none) (d + 2) 0 0 27 [(0, .ref (g.1 + 40)), (1, .int x1), (2, .int x2), (3, .int x3)] [] h rz hz := by
  unfold f_X0_chooseSecond_b27 at E
  refine qt_aload_n 0 dX0_chooseSecond_27 rfl rfl ?_
  refine qt_iload_n 3 dX0_chooseSecond_28 rfl rfl ?_
  refine qt_aload_n 0 dX0_chooseSecond_29 rfl rfl ?_
  refine qt_iload_n 1 dX0_chooseSecond_30 rfl rfl ?_
  refine qt_iload_n 2 dX0_chooseSecond_31 rfl rfl ?_
  refine qt_iload_n 3 dX0_chooseSecond_32 rfl rfl ?_
  obtain ⟨c33, h33, e33, E⟩ := qbn_el E
  refine qt_callVi (b2 := 0) [.int x1, .int x2, .int x3] (c_X0_greatestAfter x1 x2 x3 h e33) cv_RX0_149 (wl_40 h) rfl rfl rfl (Nat.le_of_ble_eq_true rfl) (Nat.le_of_ble_eq_true rfl) dX0_chooseSecond_33 ?_
  obtain ⟨h36, e36, E⟩ := qbv_el E
  refine qt_callVv (b2 := 0) [.int x3, .int c33] (c_X0_choose x3 c33 h33 e36) cv_RX0_130 (wl_40 h33) rfl rfl rfl (Nat.le_of_ble_eq_true rfl) (Nat.le_of_ble_eq_true rfl) dX0_chooseSecond_36 ?_
  exact qt_sub _ [0, 1, 2, 3] rfl ((s_X0_chooseSecond_b39 x1 x2 x3 h36 E G))
noncomputable def f_X0_chooseSecond_b6 (x1 : Int32) (x2 : Int32) (x3 : Int32) (h : qa_M) : Option ((Int32 × Int32 × Int32 × qa_M) ⊕ qa_M) :=
  if (h.1 40 7) ≤ x3 then (
   qup (some h))
  else (
   if x3 = x1 then (
    if (h.1 40 7) = (1 : Int32) then (
     f_X0_chooseSecond_b27 x1 x2 x3 h)
    else (
     f_X0_chooseSecond_b39 x1 x2 x3 h))
   else (
    f_X0_chooseSecond_b27 x1 x2 x3 h))
set_option maxRecDepth 20000 in
theorem s_X0_chooseSecond_b6 {l : Launch} {g : qa_G} {d : Nat} {rz : Option Value} {hz : qa_M} (x1 : Int32) (x2 : Int32) (x3 : Int32) (h : qa_M) {z : ((Int32 × Int32 × Int32 × qa_M) ⊕ qa_M)} (E : f_X0_chooseSecond_b6 x1 x2 x3 h = some z) (G : (Sum.elim (fun (sz : Int32 × Int32 × Int32 × qa_M) => qt_At l g (yX0_chooseSecond, cX0_chooseSecond, 4, none) (d + 2) 0 0 6 [(0, .ref (g.1 + 40)), (1, .int sz.1), (2, .int sz.2.1), (3, .int sz.2.2.1)] [] sz.2.2.2 rz hz) (qg_v rz hz)) z) : qt_At l g (yX0_chooseSecond, cX0_chooseSecond, 4, none) (d + 2) 0 0 6 [(0, .ref (g.1 + 40)), (1, .int x1), (2, .int x2), (3, .int x3)] [] h rz hz := by
  unfold f_X0_chooseSecond_b6 at E
  refine qt_iload_n 3 dX0_chooseSecond_6 rfl rfl ?_
  refine qt_aload_n 0 dX0_chooseSecond_7 rfl rfl ?_
  refine qt_getI (wl_40 h) fe_RX0_140 rfl dX0_chooseSecond_8 ?_
  refine qt_icmp_ge 45 dX0_chooseSecond_11 (by decide) E (fun E => ?_) (fun E => ?_)
  · obtain ⟨z0_, E, G⟩ := qup_g E G
    exact qt_vreturn rfl (Nat.le_of_ble_eq_true rfl) dX0_chooseSecond_45 E G
  · refine qt_iload_n 3 dX0_chooseSecond_14 rfl rfl ?_
    refine qt_iload_n 1 dX0_chooseSecond_15 rfl rfl ?_
    refine qt_icmp_ne 27 dX0_chooseSecond_16 (by decide) E (fun E => ?_) (fun E => ?_)
    · exact qt_sub _ [0, 1, 2, 3] rfl ((s_X0_chooseSecond_b27 x1 x2 x3 h E G))
    · refine qt_aload_n 0 dX0_chooseSecond_19 rfl rfl ?_
      refine qt_getI (wl_40 h) fe_RX0_140 rfl dX0_chooseSecond_20 ?_
      refine qt_iconst dX0_chooseSecond_23 ci_1 ?_
      refine qt_icmp_ne 39 dX0_chooseSecond_24 (by decide) E (fun E => ?_) (fun E => ?_)
      · exact qt_sub _ [0, 1, 2, 3] rfl ((s_X0_chooseSecond_b39 x1 x2 x3 h E G))
      · exact qt_sub _ [0, 1, 2, 3] rfl ((s_X0_chooseSecond_b27 x1 x2 x3 h E G))
noncomputable def f_X0_chooseSecond_b6_loop (x1 : Int32) (x2 : Int32) (x3 : Int32) (h : qa_M) : Option qa_M := qlp (fun sz : Int32 × Int32 × Int32 × qa_M => f_X0_chooseSecond_b6 sz.1 sz.2.1 sz.2.2.1 sz.2.2.2) (x1, x2, x3, h)
theorem s_X0_chooseSecond_b6_loop {l : Launch} {g : qa_G} {d : Nat} {rz : Option Value} {hz : qa_M} (x1 : Int32) (x2 : Int32) (x3 : Int32) (h : qa_M) {z : qa_M} (E : f_X0_chooseSecond_b6_loop x1 x2 x3 h = some z) (G : (qg_v rz hz) z) : qt_At l g (yX0_chooseSecond, cX0_chooseSecond, 4, none) (d + 2) 0 0 6 [(0, .ref (g.1 + 40)), (1, .int x1), (2, .int x2), (3, .int x3)] [] h rz hz :=
  qlp_ind (fun sz : Int32 × Int32 × Int32 × qa_M => qt_At l g (yX0_chooseSecond, cX0_chooseSecond, 4, none) (d + 2) 0 0 6 [(0, .ref (g.1 + 40)), (1, .int sz.1), (2, .int sz.2.1), (3, .int sz.2.2.1)] [] sz.2.2.2 rz hz) (fun sz E => s_X0_chooseSecond_b6 sz.1 sz.2.1 sz.2.2.1 sz.2.2.2 E G) (fun sz sz2 E ih => s_X0_chooseSecond_b6 sz.1 sz.2.1 sz.2.2.1 sz.2.2.2 E ih) (x1, x2, x3, h) E
noncomputable def m_X0_chooseSecond (x1 : Int32) (x2 : Int32) (h : qa_M) : Option qa_M :=
  qbv (m_X0_forget h) (fun h1 : qa_M =>
  qbd (0 : Int32) (fun v5 : Int32 =>
  f_X0_chooseSecond_b6_loop x1 x2 v5 h1))
set_option maxRecDepth 20000 in
theorem c_X0_chooseSecond {l : Launch} {g : qa_G} {d : Nat} (x1 : Int32) (x2 : Int32) (h : qa_M) {h1 : qa_M} (E : m_X0_chooseSecond x1 x2 h = some h1) : qt_Met l g (yX0_chooseSecond, cX0_chooseSecond, 4, none) (d + 2) 0 [.ref (g.1 + 40), .int x1, .int x2] h none h1 := by
  refine qt_Met.of (plainFor_of_name (by decide)) (Nat.le_of_ble_eq_true rfl) ?_
  have G : qg_v none h1 (h1) := ⟨rfl, rfl⟩
  unfold m_X0_chooseSecond at E
  refine qt_aload_n 0 dX0_chooseSecond_0 rfl rfl ?_
  obtain ⟨h1, e1, E⟩ := qbv_el E
  refine qt_callVv (b2 := 0) [] (c_X0_forget h e1) cv_RX0_123 (wl_40 h) rfl rfl rfl (Nat.le_of_ble_eq_true rfl) (Nat.le_of_ble_eq_true rfl) dX0_chooseSecond_1 ?_
  refine qt_iconst dX0_chooseSecond_4 ci_0 ?_
  refine qt_istore_n (fun v5 => [(3, .int v5), (0, .ref (g.1 + 40)), (1, .int x1), (2, .int x2)]) dX0_chooseSecond_5 rfl (Nat.le_of_ble_eq_true rfl) (fun _ => rfl) E (fun v5 E => ?_)
  exact qt_sub _ [1, 2, 3, 0] rfl ((s_X0_chooseSecond_b6_loop x1 x2 v5 h1 E G))
noncomputable def m_X11_then (x1 : Int32) (x2 : Int32) (x3 : Int32) (x4 : Int32) (h : qa_M) : Option (Int32 × qa_M) :=
  qbn (m_X11_known x1 h) (fun (c11 : Int32) (h11 : qa_M) =>
  if c11 = 0 then (
   some ((-1 : Int32), h11))
  else (
   qbn (m_X11_within x2 (h11.1 4 2) h11) (fun (c23 : Int32) (h23 : qa_M) =>
   if c23 = 0 then (
    some ((-1 : Int32), h23))
   else (
    qbn (m_X11_within x3 ((1 : Int32) <<< ((h23.1 4 4) &&& 31)) h23) (fun (c37 : Int32) (h37 : qa_M) =>
    if c37 = 0 then (
     some ((-1 : Int32), h37))
    else (
     qbn (m_X11_within x4 (2 : Int32) h37) (fun (c46 : Int32) (h46 : qa_M) =>
     if c46 = 0 then (
      some ((-1 : Int32), h46))
     else (
      qbv (m_X11_lookFromTwo x1 h46) (fun h56 : qa_M =>
      qbv (m_X0_chooseSecond x2 x3 h56) (fun h65 : qa_M =>
      qbn (m_X0_chosen x4 h65) (fun (c74 : Int32) (h74 : qa_M) =>
      some (c74, h74))))))))))))
set_option maxRecDepth 20000 in
theorem c_X11_then {l : Launch} {g : qa_G} {d : Nat} (x1 : Int32) (x2 : Int32) (x3 : Int32) (x4 : Int32) (h : qa_M) {c : Int32} {h1 : qa_M} (E : m_X11_then x1 x2 x3 x4 h = some (c, h1)) : qt_Met l g (yX11_then, cX11_then, 6, (some .int)) (d + 7) 1 [.ref (g.1 + 0), .int x1, .int x2, .int x3, .int x4] h (some (.int c)) h1 := by
  refine qt_Met.of (plainFor_of_name (by decide)) (Nat.le_of_ble_eq_true rfl) ?_
  have G : qg_i (some (.int c)) h1 ((c, h1)) := ⟨rfl, rfl⟩
  unfold m_X11_then at E
  refine qt_aload_n 0 dX11_then_0 rfl rfl ?_
  refine qt_getS 3 (wl_0 h) fe_RX11_19 rfl dX11_then_1 ?_
  refine qt_getS 4 (wl_3 h) fe_RX11_108 rfl dX11_then_4 ?_
  refine qt_astore [(5, .ref (g.1 + 4)), (0, .ref (g.1 + 0)), (1, .int x1), (2, .int x2), (3, .int x3), (4, .int x4)] dX11_then_7 (Nat.le_of_ble_eq_true rfl) rfl ?_
  refine qt_aload_n 1 dX11_then_9 rfl rfl ?_
  refine qt_iload_n 2 dX11_then_10 rfl rfl ?_
  obtain ⟨c11, h11, e11, E⟩ := qbn_el E
  refine qt_callVi (b2 := 0) [.int x1] (c_X11_known x1 h e11) cv_RX11_187 (wl_0 h) rfl rfl rfl (Nat.le_of_ble_eq_true rfl) (Nat.le_of_ble_eq_true rfl) dX11_then_11 ?_
  refine qt_if_eq 52 dX11_then_14 (by decide) E (fun E => ?_) (fun E => ?_)
  · refine qt_iconst dX11_then_52 ci_m1 ?_
    exact qt_ireturn rfl (Nat.le_of_ble_eq_true rfl) dX11_then_53 E G
  · refine qt_iload_n 3 dX11_then_17 rfl rfl ?_
    refine qt_aload 0 dX11_then_18 rfl ?_
    refine qt_getI (wl_4 h11) fe_RX11_118 rfl dX11_then_20 ?_
    obtain ⟨c23, h23, e23, E⟩ := qbn_el E
    refine qt_callSi (b2 := 0) [.int x2, .int (h11.1 4 2)] (c_X11_within x2 (h11.1 4 2) h11 e23) cv_RX11_130 rfl (Nat.le_of_ble_eq_true rfl) (Nat.le_of_ble_eq_true rfl) dX11_then_23 ?_
    refine qt_if_eq 52 dX11_then_26 (by decide) E (fun E => ?_) (fun E => ?_)
    · refine qt_iconst dX11_then_52 ci_m1 ?_
      exact qt_ireturn rfl (Nat.le_of_ble_eq_true rfl) dX11_then_53 E G
    · refine qt_iload_n 4 dX11_then_29 rfl rfl ?_
      refine qt_iconst dX11_then_30 ci_1 ?_
      refine qt_aload 0 dX11_then_31 rfl ?_
      refine qt_getI (wl_4 h23) fe_RX11_137 rfl dX11_then_33 ?_
      refine qt_ishl dX11_then_36 ?_
      obtain ⟨c37, h37, e37, E⟩ := qbn_el E
      refine qt_callSi (b2 := 0) [.int x3, .int ((1 : Int32) <<< ((h23.1 4 4) &&& 31))] (c_X11_within x3 ((1 : Int32) <<< ((h23.1 4 4) &&& 31)) h23 e37) cv_RX11_130 rfl (Nat.le_of_ble_eq_true rfl) (Nat.le_of_ble_eq_true rfl) dX11_then_37 ?_
      refine qt_if_eq 52 dX11_then_40 (by decide) E (fun E => ?_) (fun E => ?_)
      · refine qt_iconst dX11_then_52 ci_m1 ?_
        exact qt_ireturn rfl (Nat.le_of_ble_eq_true rfl) dX11_then_53 E G
      · refine qt_iload 5 dX11_then_43 rfl ?_
        refine qt_iconst dX11_then_45 ci_2 ?_
        obtain ⟨c46, h46, e46, E⟩ := qbn_el E
        refine qt_callSi (b2 := 0) [.int x4, .int (2 : Int32)] (c_X11_within x4 (2 : Int32) h37 e46) cv_RX11_130 rfl (Nat.le_of_ble_eq_true rfl) (Nat.le_of_ble_eq_true rfl) dX11_then_46 ?_
        refine qt_if_ne 54 dX11_then_49 (by decide) E (fun E => ?_) (fun E => ?_)
        · refine qt_aload_n 1 dX11_then_54 rfl rfl ?_
          refine qt_iload_n 2 dX11_then_55 rfl rfl ?_
          obtain ⟨h56, e56, E⟩ := qbv_el E
          refine qt_callVv (b2 := 1) [.int x1] (c_X11_lookFromTwo x1 h46 e56) cv_RX11_254 (wl_0 h46) rfl rfl rfl (Nat.le_of_ble_eq_true rfl) (Nat.le_of_ble_eq_true rfl) dX11_then_56 ?_
          refine qt_aload_n 1 dX11_then_59 rfl rfl ?_
          refine qt_getS 40 (wl_0 h56) fe_RX11_81 rfl dX11_then_60 ?_
          refine qt_iload_n 3 dX11_then_63 rfl rfl ?_
          refine qt_iload_n 4 dX11_then_64 rfl rfl ?_
          obtain ⟨h65, e65, E⟩ := qbv_el E
          refine qt_callVv (b2 := 0) [.int x2, .int x3] (c_X0_chooseSecond x2 x3 h56 e65) cv_RX11_257 (wl_40 h56) rfl rfl rfl (Nat.le_of_ble_eq_true rfl) (Nat.le_of_ble_eq_true rfl) dX11_then_65 ?_
          refine qt_aload_n 1 dX11_then_68 rfl rfl ?_
          refine qt_getS 40 (wl_0 h65) fe_RX11_81 rfl dX11_then_69 ?_
          refine qt_iload 5 dX11_then_72 rfl ?_
          obtain ⟨c74, h74, e74, E⟩ := qbn_el E
          refine qt_callVi (b2 := 0) [.int x4] (c_X0_chosen x4 h65 e74) cv_RX11_251 (wl_40 h65) rfl rfl rfl (Nat.le_of_ble_eq_true rfl) (Nat.le_of_ble_eq_true rfl) dX11_then_74 ?_
          exact qt_ireturn rfl (Nat.le_of_ble_eq_true rfl) dX11_then_77 E G
        · refine qt_iconst dX11_then_52 ci_m1 ?_
          exact qt_ireturn rfl (Nat.le_of_ble_eq_true rfl) dX11_then_53 E G
noncomputable def f_X0_chooseFirst_b73 (x1 : Int32) (x2 : Int32) (h : qa_M) : Option qa_M :=
  qbd (qw_I h 40 14 x1) (fun h75 : qa_M =>
  qbd (qw_I h75 40 15 x2) (fun h80 : qa_M =>
  some h80))
set_option maxRecDepth 20000 in
theorem s_X0_chooseFirst_b73 {l : Launch} {g : qa_G} {d : Nat} {rz : Option Value} {hz : qa_M} (x1 : Int32) (x2 : Int32) (h : qa_M) {z : qa_M} (E : f_X0_chooseFirst_b73 x1 x2 h = some z) (G : (qg_v rz hz) z) : qt_At l g (yX0_chooseFirst, cX0_chooseFirst, 6, none) (d + 3) 0 0 73 [(0, .ref (g.1 + 40)), (1, .int x1), (2, .int x2)] [] h rz hz := by
  unfold f_X0_chooseFirst_b73 at E
  refine qt_aload_n 0 dX0_chooseFirst_73 rfl rfl ?_
  refine qt_iload_n 1 dX0_chooseFirst_74 rfl rfl ?_
  refine qt_putI (wl_40 h) fd_RX0_34 rfl rfl rfl dX0_chooseFirst_75 E (fun h75 E => ?_)
  refine qt_aload_n 0 dX0_chooseFirst_78 rfl rfl ?_
  refine qt_iload_n 2 dX0_chooseFirst_79 rfl rfl ?_
  refine qt_putI (wl_40 h75) fd_RX0_38 rfl rfl rfl dX0_chooseFirst_80 E (fun h80 E => ?_)
  exact qt_vreturn rfl (Nat.le_of_ble_eq_true rfl) dX0_chooseFirst_83 E G
noncomputable def f_X0_chooseFirst_b67 (x1 : Int32) (x2 : Int32) (x3 : Int32) (h : qa_M) : Option ((Int32 × Int32 × Int32 × qa_M) ⊕ qa_M) :=
  qbd (x3 + (1 : Int32)) (fun v67 : Int32 =>
  some (.inl (x1, x2, v67, h)))
set_option maxRecDepth 20000 in
theorem s_X0_chooseFirst_b67 {l : Launch} {g : qa_G} {d : Nat} {rz : Option Value} {hz : qa_M} (x1 : Int32) (x2 : Int32) (x3 : Int32) (h : qa_M) {z : ((Int32 × Int32 × Int32 × qa_M) ⊕ qa_M)} (E : f_X0_chooseFirst_b67 x1 x2 x3 h = some z) (G : (Sum.elim (fun (sz : Int32 × Int32 × Int32 × qa_M) => qt_At l g (yX0_chooseFirst, cX0_chooseFirst, 6, none) (d + 3) 0 0 6 [(0, .ref (g.1 + 40)), (1, .int sz.1), (2, .int sz.2.1), (3, .int sz.2.2.1)] [] sz.2.2.2 rz hz) (qg_v rz hz)) z) : qt_At l g (yX0_chooseFirst, cX0_chooseFirst, 6, none) (d + 3) 0 0 67 [(0, .ref (g.1 + 40)), (1, .int x1), (2, .int x2), (3, .int x3)] [] h rz hz := by
  unfold f_X0_chooseFirst_b67 at E
  refine qt_iinc 3 (fun v67 => [(3, .int v67), (0, .ref (g.1 + 40)), (1, .int x1), (2, .int x2)]) dX0_chooseFirst_67 rfl ci_1 (Nat.le_of_ble_eq_true rfl) (fun _ => rfl) E (fun v67 E => ?_)
  refine qt_goto 6 dX0_chooseFirst_70 (by decide) ?_
  cases E
  exact qt_sub _ [1, 2, 3, 0] rfl (G)
noncomputable def f_X0_chooseFirst_b62 (x3 : Int32) (x4 : Int32) (h : qa_M) : Option ((Int32 × Int32 × Int32 × qa_M) ⊕ qa_M) :=
  qbd x3 (fun v63 : Int32 =>
  qbd x4 (fun v66 : Int32 =>
  f_X0_chooseFirst_b67 v63 v66 x3 h))
set_option maxRecDepth 20000 in
theorem s_X0_chooseFirst_b62 {l : Launch} {g : qa_G} {d : Nat} {rz : Option Value} {hz : qa_M} (x3 : Int32) (x4 : Int32) (h : qa_M) {z : ((Int32 × Int32 × Int32 × qa_M) ⊕ qa_M)} (E : f_X0_chooseFirst_b62 x3 x4 h = some z) (G : (Sum.elim (fun (sz : Int32 × Int32 × Int32 × qa_M) => qt_At l g (yX0_chooseFirst, cX0_chooseFirst, 6, none) (d + 3) 0 0 6 [(0, .ref (g.1 + 40)), (1, .int sz.1), (2, .int sz.2.1), (3, .int sz.2.2.1)] [] sz.2.2.2 rz hz) (qg_v rz hz)) z) : qt_At l g (yX0_chooseFirst, cX0_chooseFirst, 6, none) (d + 3) 0 0 62 [(0, .ref (g.1 + 40)), (3, .int x3), (4, .int x4)] [] h rz hz := by
  unfold f_X0_chooseFirst_b62 at E
  refine qt_iload_n 1 dX0_chooseFirst_62 rfl rfl ?_
  refine qt_istore_n (fun v63 => [(1, .int v63), (0, .ref (g.1 + 40)), (3, .int x3), (4, .int x4)]) dX0_chooseFirst_63 rfl (Nat.le_of_ble_eq_true rfl) (fun _ => rfl) E (fun v63 E => ?_)
  refine qt_iload 3 dX0_chooseFirst_64 rfl ?_
  refine qt_istore_n (fun v66 => [(2, .int v66), (1, .int v63), (0, .ref (g.1 + 40)), (3, .int x3), (4, .int x4)]) dX0_chooseFirst_66 rfl (Nat.le_of_ble_eq_true rfl) (fun _ => rfl) E (fun v66 E => ?_)
  exact qt_sub _ [2, 1, 0, 3] rfl ((s_X0_chooseFirst_b67 v63 v66 x3 h E G))
noncomputable def f_X0_chooseFirst_b51 (x1 : Int32) (x2 : Int32) (x3 : Int32) (x4 : Int32) (h : qa_M) : Option ((Int32 × Int32 × Int32 × qa_M) ⊕ qa_M) :=
  if x1 = (-1 : Int32) then (
   f_X0_chooseFirst_b62 x3 x4 h)
  else (
   if x2 ≤ x4 then (
    f_X0_chooseFirst_b67 x1 x2 x3 h)
   else (
    f_X0_chooseFirst_b62 x3 x4 h))
set_option maxRecDepth 20000 in
theorem s_X0_chooseFirst_b51 {l : Launch} {g : qa_G} {d : Nat} {rz : Option Value} {hz : qa_M} (x1 : Int32) (x2 : Int32) (x3 : Int32) (x4 : Int32) (h : qa_M) {z : ((Int32 × Int32 × Int32 × qa_M) ⊕ qa_M)} (E : f_X0_chooseFirst_b51 x1 x2 x3 x4 h = some z) (G : (Sum.elim (fun (sz : Int32 × Int32 × Int32 × qa_M) => qt_At l g (yX0_chooseFirst, cX0_chooseFirst, 6, none) (d + 3) 0 0 6 [(0, .ref (g.1 + 40)), (1, .int sz.1), (2, .int sz.2.1), (3, .int sz.2.2.1)] [] sz.2.2.2 rz hz) (qg_v rz hz)) z) : qt_At l g (yX0_chooseFirst, cX0_chooseFirst, 6, none) (d + 3) 0 0 51 [(0, .ref (g.1 + 40)), (1, .int x1), (2, .int x2), (3, .int x3), (4, .int x4)] [] h rz hz := by
  unfold f_X0_chooseFirst_b51 at E
  refine qt_iload_n 1 dX0_chooseFirst_51 rfl rfl ?_
  refine qt_iconst dX0_chooseFirst_52 ci_m1 ?_
  refine qt_icmp_eq 62 dX0_chooseFirst_53 (by decide) E (fun E => ?_) (fun E => ?_)
  · exact qt_sub _ [0, 3, 4] rfl ((s_X0_chooseFirst_b62 x3 x4 h E G))
  · refine qt_iload 4 dX0_chooseFirst_56 rfl ?_
    refine qt_iload_n 2 dX0_chooseFirst_58 rfl rfl ?_
    refine qt_icmp_ge 67 dX0_chooseFirst_59 (by decide) E (fun E => ?_) (fun E => ?_)
    · exact qt_sub _ [0, 1, 2, 3] rfl ((s_X0_chooseFirst_b67 x1 x2 x3 h E G))
    · exact qt_sub _ [0, 3, 4] rfl ((s_X0_chooseFirst_b62 x3 x4 h E G))
noncomputable def f_X0_chooseFirst_b20 (x1 : Int32) (x2 : Int32) (x3 : Int32) (x4 : Int32) (x5 : Int32) (h : qa_M) : Option ((Int32 × Int32 × Int32 × Int32 × Int32 × qa_M) ⊕ ((Int32 × Int32 × Int32 × qa_M) ⊕ qa_M)) :=
  if (16 : Int32) ≤ x5 then (
   qup (f_X0_chooseFirst_b51 x1 x2 x3 x4 h))
  else (
   qbv (m_X0_chooseSecond x3 x5 h) (fun h31 : qa_M =>
   qbd (q_max x4 (h31.1 40 15)) (fun v43 : Int32 =>
   qbd (x5 + (1 : Int32)) (fun v45 : Int32 =>
   some (.inl (x1, x2, x3, v43, v45, h31))))))
set_option maxRecDepth 20000 in
theorem s_X0_chooseFirst_b20 {l : Launch} {g : qa_G} {d : Nat} {rz : Option Value} {hz : qa_M} (x1 : Int32) (x2 : Int32) (x3 : Int32) (x4 : Int32) (x5 : Int32) (h : qa_M) {z : ((Int32 × Int32 × Int32 × Int32 × Int32 × qa_M) ⊕ ((Int32 × Int32 × Int32 × qa_M) ⊕ qa_M))} (E : f_X0_chooseFirst_b20 x1 x2 x3 x4 x5 h = some z) (G : (Sum.elim (fun (sz : Int32 × Int32 × Int32 × Int32 × Int32 × qa_M) => qt_At l g (yX0_chooseFirst, cX0_chooseFirst, 6, none) (d + 3) 0 0 20 [(0, .ref (g.1 + 40)), (1, .int sz.1), (2, .int sz.2.1), (3, .int sz.2.2.1), (4, .int sz.2.2.2.1), (5, .int sz.2.2.2.2.1)] [] sz.2.2.2.2.2 rz hz) (Sum.elim (fun (sz : Int32 × Int32 × Int32 × qa_M) => qt_At l g (yX0_chooseFirst, cX0_chooseFirst, 6, none) (d + 3) 0 0 6 [(0, .ref (g.1 + 40)), (1, .int sz.1), (2, .int sz.2.1), (3, .int sz.2.2.1)] [] sz.2.2.2 rz hz) (qg_v rz hz))) z) : qt_At l g (yX0_chooseFirst, cX0_chooseFirst, 6, none) (d + 3) 0 0 20 [(0, .ref (g.1 + 40)), (1, .int x1), (2, .int x2), (3, .int x3), (4, .int x4), (5, .int x5)] [] h rz hz := by
  unfold f_X0_chooseFirst_b20 at E
  refine qt_iload 5 dX0_chooseFirst_20 rfl ?_
  refine qt_bipush dX0_chooseFirst_22 cb_16 ?_
  refine qt_icmp_ge 51 dX0_chooseFirst_24 (by decide) E (fun E => ?_) (fun E => ?_)
  · obtain ⟨z0_, E, G⟩ := qup_g E G
    exact qt_sub _ [0, 1, 2, 3, 4] rfl ((s_X0_chooseFirst_b51 x1 x2 x3 x4 h E G))
  · refine qt_aload_n 0 dX0_chooseFirst_27 rfl rfl ?_
    refine qt_iload_n 3 dX0_chooseFirst_28 rfl rfl ?_
    refine qt_iload 5 dX0_chooseFirst_29 rfl ?_
    obtain ⟨h31, e31, E⟩ := qbv_el E
    refine qt_callVv (b2 := 0) [.int x3, .int x5] (c_X0_chooseSecond x3 x5 h e31) cv_RX0_153 (wl_40 h) rfl rfl rfl (Nat.le_of_ble_eq_true rfl) (Nat.le_of_ble_eq_true rfl) dX0_chooseFirst_31 ?_
    refine qt_iload 4 dX0_chooseFirst_34 rfl ?_
    refine qt_aload_n 0 dX0_chooseFirst_36 rfl rfl ?_
    refine qt_getI (wl_40 h31) fe_RX0_38 rfl dX0_chooseFirst_37 ?_
    refine qt_mmax tb_1212 dX0_chooseFirst_40 (Nat.le_of_ble_eq_true rfl) ?_
    refine qt_istore (fun v43 => [(4, .int v43), (0, .ref (g.1 + 40)), (1, .int x1), (2, .int x2), (3, .int x3), (5, .int x5)]) dX0_chooseFirst_43 (Nat.le_of_ble_eq_true rfl) (fun _ => rfl) E (fun v43 E => ?_)
    refine qt_iinc 5 (fun v45 => [(5, .int v45), (4, .int v43), (0, .ref (g.1 + 40)), (1, .int x1), (2, .int x2), (3, .int x3)]) dX0_chooseFirst_45 rfl ci_1 (Nat.le_of_ble_eq_true rfl) (fun _ => rfl) E (fun v45 E => ?_)
    refine qt_goto 20 dX0_chooseFirst_48 (by decide) ?_
    cases E
    exact qt_sub _ [2, 3, 4, 5, 1, 0] rfl (G)
noncomputable def f_X0_chooseFirst_b20_loop (x1 : Int32) (x2 : Int32) (x3 : Int32) (x4 : Int32) (x5 : Int32) (h : qa_M) : Option ((Int32 × Int32 × Int32 × qa_M) ⊕ qa_M) := qlp (fun sz : Int32 × Int32 × Int32 × Int32 × Int32 × qa_M => f_X0_chooseFirst_b20 sz.1 sz.2.1 sz.2.2.1 sz.2.2.2.1 sz.2.2.2.2.1 sz.2.2.2.2.2) (x1, x2, x3, x4, x5, h)
theorem s_X0_chooseFirst_b20_loop {l : Launch} {g : qa_G} {d : Nat} {rz : Option Value} {hz : qa_M} (x1 : Int32) (x2 : Int32) (x3 : Int32) (x4 : Int32) (x5 : Int32) (h : qa_M) {z : ((Int32 × Int32 × Int32 × qa_M) ⊕ qa_M)} (E : f_X0_chooseFirst_b20_loop x1 x2 x3 x4 x5 h = some z) (G : (Sum.elim (fun (sz : Int32 × Int32 × Int32 × qa_M) => qt_At l g (yX0_chooseFirst, cX0_chooseFirst, 6, none) (d + 3) 0 0 6 [(0, .ref (g.1 + 40)), (1, .int sz.1), (2, .int sz.2.1), (3, .int sz.2.2.1)] [] sz.2.2.2 rz hz) (qg_v rz hz)) z) : qt_At l g (yX0_chooseFirst, cX0_chooseFirst, 6, none) (d + 3) 0 0 20 [(0, .ref (g.1 + 40)), (1, .int x1), (2, .int x2), (3, .int x3), (4, .int x4), (5, .int x5)] [] h rz hz :=
  qlp_ind (fun sz : Int32 × Int32 × Int32 × Int32 × Int32 × qa_M => qt_At l g (yX0_chooseFirst, cX0_chooseFirst, 6, none) (d + 3) 0 0 20 [(0, .ref (g.1 + 40)), (1, .int sz.1), (2, .int sz.2.1), (3, .int sz.2.2.1), (4, .int sz.2.2.2.1), (5, .int sz.2.2.2.2.1)] [] sz.2.2.2.2.2 rz hz) (fun sz E => s_X0_chooseFirst_b20 sz.1 sz.2.1 sz.2.2.1 sz.2.2.2.1 sz.2.2.2.2.1 sz.2.2.2.2.2 E G) (fun sz sz2 E ih => s_X0_chooseFirst_b20 sz.1 sz.2.1 sz.2.2.1 sz.2.2.2.1 sz.2.2.2.2.1 sz.2.2.2.2.2 E ih) (x1, x2, x3, x4, x5, h) E
noncomputable def f_X0_chooseFirst_b6 (x1 : Int32) (x2 : Int32) (x3 : Int32) (h : qa_M) : Option ((Int32 × Int32 × Int32 × qa_M) ⊕ qa_M) :=
  if (h.1 40 7) ≤ x3 then (
   qup (f_X0_chooseFirst_b73 x1 x2 h))
  else (
   qbd (0 : Int32) (fun v15 : Int32 =>
   qbd (0 : Int32) (fun v18 : Int32 =>
   f_X0_chooseFirst_b20_loop x1 x2 x3 v15 v18 h)))
set_option maxRecDepth 20000 in
theorem s_X0_chooseFirst_b6 {l : Launch} {g : qa_G} {d : Nat} {rz : Option Value} {hz : qa_M} (x1 : Int32) (x2 : Int32) (x3 : Int32) (h : qa_M) {z : ((Int32 × Int32 × Int32 × qa_M) ⊕ qa_M)} (E : f_X0_chooseFirst_b6 x1 x2 x3 h = some z) (G : (Sum.elim (fun (sz : Int32 × Int32 × Int32 × qa_M) => qt_At l g (yX0_chooseFirst, cX0_chooseFirst, 6, none) (d + 3) 0 0 6 [(0, .ref (g.1 + 40)), (1, .int sz.1), (2, .int sz.2.1), (3, .int sz.2.2.1)] [] sz.2.2.2 rz hz) (qg_v rz hz)) z) : qt_At l g (yX0_chooseFirst, cX0_chooseFirst, 6, none) (d + 3) 0 0 6 [(0, .ref (g.1 + 40)), (1, .int x1), (2, .int x2), (3, .int x3)] [] h rz hz := by
  unfold f_X0_chooseFirst_b6 at E
  refine qt_iload_n 3 dX0_chooseFirst_6 rfl rfl ?_
  refine qt_aload_n 0 dX0_chooseFirst_7 rfl rfl ?_
  refine qt_getI (wl_40 h) fe_RX0_140 rfl dX0_chooseFirst_8 ?_
  refine qt_icmp_ge 73 dX0_chooseFirst_11 (by decide) E (fun E => ?_) (fun E => ?_)
  · obtain ⟨z0_, E, G⟩ := qup_g E G
    exact qt_sub _ [0, 1, 2] rfl ((s_X0_chooseFirst_b73 x1 x2 h E G))
  · refine qt_iconst dX0_chooseFirst_14 ci_0 ?_
    refine qt_istore (fun v15 => [(4, .int v15), (0, .ref (g.1 + 40)), (1, .int x1), (2, .int x2), (3, .int x3)]) dX0_chooseFirst_15 (Nat.le_of_ble_eq_true rfl) (fun _ => rfl) E (fun v15 E => ?_)
    refine qt_iconst dX0_chooseFirst_17 ci_0 ?_
    refine qt_istore (fun v18 => [(5, .int v18), (4, .int v15), (0, .ref (g.1 + 40)), (1, .int x1), (2, .int x2), (3, .int x3)]) dX0_chooseFirst_18 (Nat.le_of_ble_eq_true rfl) (fun _ => rfl) E (fun v18 E => ?_)
    exact qt_sub _ [2, 3, 4, 5, 1, 0] rfl ((s_X0_chooseFirst_b20_loop x1 x2 x3 v15 v18 h E G))
noncomputable def f_X0_chooseFirst_b6_loop (x1 : Int32) (x2 : Int32) (x3 : Int32) (h : qa_M) : Option qa_M := qlp (fun sz : Int32 × Int32 × Int32 × qa_M => f_X0_chooseFirst_b6 sz.1 sz.2.1 sz.2.2.1 sz.2.2.2) (x1, x2, x3, h)
theorem s_X0_chooseFirst_b6_loop {l : Launch} {g : qa_G} {d : Nat} {rz : Option Value} {hz : qa_M} (x1 : Int32) (x2 : Int32) (x3 : Int32) (h : qa_M) {z : qa_M} (E : f_X0_chooseFirst_b6_loop x1 x2 x3 h = some z) (G : (qg_v rz hz) z) : qt_At l g (yX0_chooseFirst, cX0_chooseFirst, 6, none) (d + 3) 0 0 6 [(0, .ref (g.1 + 40)), (1, .int x1), (2, .int x2), (3, .int x3)] [] h rz hz :=
  qlp_ind (fun sz : Int32 × Int32 × Int32 × qa_M => qt_At l g (yX0_chooseFirst, cX0_chooseFirst, 6, none) (d + 3) 0 0 6 [(0, .ref (g.1 + 40)), (1, .int sz.1), (2, .int sz.2.1), (3, .int sz.2.2.1)] [] sz.2.2.2 rz hz) (fun sz E => s_X0_chooseFirst_b6 sz.1 sz.2.1 sz.2.2.1 sz.2.2.2 E G) (fun sz sz2 E ih => s_X0_chooseFirst_b6 sz.1 sz.2.1 sz.2.2.1 sz.2.2.2 E ih) (x1, x2, x3, h) E
noncomputable def m_X0_chooseFirst (h : qa_M) : Option qa_M :=
  qbd (-1 : Int32) (fun v1 : Int32 =>
  qbd (0 : Int32) (fun v3 : Int32 =>
  qbd (0 : Int32) (fun v5 : Int32 =>
  f_X0_chooseFirst_b6_loop v1 v3 v5 h)))
set_option maxRecDepth 20000 in
theorem c_X0_chooseFirst {l : Launch} {g : qa_G} {d : Nat} (h : qa_M) {h1 : qa_M} (E : m_X0_chooseFirst h = some h1) : qt_Met l g (yX0_chooseFirst, cX0_chooseFirst, 6, none) (d + 3) 0 [.ref (g.1 + 40)] h none h1 := by
  refine qt_Met.of (plainFor_of_name (by decide)) (Nat.le_of_ble_eq_true rfl) ?_
  have G : qg_v none h1 (h1) := ⟨rfl, rfl⟩
  unfold m_X0_chooseFirst at E
  refine qt_iconst dX0_chooseFirst_0 ci_m1 ?_
  refine qt_istore_n (fun v1 => [(1, .int v1), (0, .ref (g.1 + 40))]) dX0_chooseFirst_1 rfl (Nat.le_of_ble_eq_true rfl) (fun _ => rfl) E (fun v1 E => ?_)
  refine qt_iconst dX0_chooseFirst_2 ci_0 ?_
  refine qt_istore_n (fun v3 => [(2, .int v3), (1, .int v1), (0, .ref (g.1 + 40))]) dX0_chooseFirst_3 rfl (Nat.le_of_ble_eq_true rfl) (fun _ => rfl) E (fun v3 E => ?_)
  refine qt_iconst dX0_chooseFirst_4 ci_0 ?_
  refine qt_istore_n (fun v5 => [(3, .int v5), (2, .int v3), (1, .int v1), (0, .ref (g.1 + 40))]) dX0_chooseFirst_5 rfl (Nat.le_of_ble_eq_true rfl) (fun _ => rfl) E (fun v5 E => ?_)
  exact qt_sub _ [3, 2, 1, 0] rfl ((s_X0_chooseFirst_b6_loop v1 v3 v5 h E G))
noncomputable def m_X11_plan (x1 : Int32) (x2 : Int32) (h : qa_M) : Option (Int32 × qa_M) :=
  qbn (m_X11_known x1 h) (fun (c2 : Int32) (h2 : qa_M) =>
  if c2 = 0 then (
   some ((-1 : Int32), h2))
  else (
   qbn (m_X11_within x2 (2 : Int32) h2) (fun (c10 : Int32) (h10 : qa_M) =>
   if c10 = 0 then (
    some ((-1 : Int32), h10))
   else (
    if (h10.1 4 2) = 0 then (
     some ((-2 : Int32), h10))
    else (
     qbv (m_X11_lookFromTwo x1 h10) (fun h36 : qa_M =>
     qbv (m_X0_chooseFirst h36) (fun h43 : qa_M =>
     qbn (m_X0_chosen x2 h43) (fun (c51 : Int32) (h51 : qa_M) =>
     some (c51, h51)))))))))
set_option maxRecDepth 20000 in
theorem c_X11_plan {l : Launch} {g : qa_G} {d : Nat} (x1 : Int32) (x2 : Int32) (h : qa_M) {c : Int32} {h1 : qa_M} (E : m_X11_plan x1 x2 h = some (c, h1)) : qt_Met l g (yX11_plan, cX11_plan, 3, (some .int)) (d + 7) 1 [.ref (g.1 + 0), .int x1, .int x2] h (some (.int c)) h1 := by
  refine qt_Met.of (plainFor_of_name (by decide)) (Nat.le_of_ble_eq_true rfl) ?_
  have G : qg_i (some (.int c)) h1 ((c, h1)) := ⟨rfl, rfl⟩
  unfold m_X11_plan at E
  refine qt_aload_n 0 dX11_plan_0 rfl rfl ?_
  refine qt_iload_n 1 dX11_plan_1 rfl rfl ?_
  obtain ⟨c2, h2, e2, E⟩ := qbn_el E
  refine qt_callVi (b2 := 0) [.int x1] (c_X11_known x1 h e2) cv_RX11_187 (wl_0 h) rfl rfl rfl (Nat.le_of_ble_eq_true rfl) (Nat.le_of_ble_eq_true rfl) dX11_plan_2 ?_
  refine qt_if_eq 16 dX11_plan_5 (by decide) E (fun E => ?_) (fun E => ?_)
  · refine qt_iconst dX11_plan_16 ci_m1 ?_
    exact qt_ireturn rfl (Nat.le_of_ble_eq_true rfl) dX11_plan_17 E G
  · refine qt_iload_n 2 dX11_plan_8 rfl rfl ?_
    refine qt_iconst dX11_plan_9 ci_2 ?_
    obtain ⟨c10, h10, e10, E⟩ := qbn_el E
    refine qt_callSi (b2 := 0) [.int x2, .int (2 : Int32)] (c_X11_within x2 (2 : Int32) h2 e10) cv_RX11_130 rfl (Nat.le_of_ble_eq_true rfl) (Nat.le_of_ble_eq_true rfl) dX11_plan_10 ?_
    refine qt_if_ne 18 dX11_plan_13 (by decide) E (fun E => ?_) (fun E => ?_)
    · refine qt_aload_n 0 dX11_plan_18 rfl rfl ?_
      refine qt_getS 3 (wl_0 h10) fe_RX11_19 rfl dX11_plan_19 ?_
      refine qt_getS 4 (wl_3 h10) fe_RX11_108 rfl dX11_plan_22 ?_
      refine qt_getI (wl_4 h10) fe_RX11_118 rfl dX11_plan_25 ?_
      refine qt_if_ne 34 dX11_plan_28 (by decide) E (fun E => ?_) (fun E => ?_)
      · refine qt_aload_n 0 dX11_plan_34 rfl rfl ?_
        refine qt_iload_n 1 dX11_plan_35 rfl rfl ?_
        obtain ⟨h36, e36, E⟩ := qbv_el E
        refine qt_callVv (b2 := 1) [.int x1] (c_X11_lookFromTwo x1 h10 e36) cv_RX11_254 (wl_0 h10) rfl rfl rfl (Nat.le_of_ble_eq_true rfl) (Nat.le_of_ble_eq_true rfl) dX11_plan_36 ?_
        refine qt_aload_n 0 dX11_plan_39 rfl rfl ?_
        refine qt_getS 40 (wl_0 h36) fe_RX11_81 rfl dX11_plan_40 ?_
        obtain ⟨h43, e43, E⟩ := qbv_el E
        refine qt_callVv (b2 := 0) [] (c_X0_chooseFirst h36 e43) cv_RX11_260 (wl_40 h36) rfl rfl rfl (Nat.le_of_ble_eq_true rfl) (Nat.le_of_ble_eq_true rfl) dX11_plan_43 ?_
        refine qt_aload_n 0 dX11_plan_46 rfl rfl ?_
        refine qt_getS 40 (wl_0 h43) fe_RX11_81 rfl dX11_plan_47 ?_
        refine qt_iload_n 2 dX11_plan_50 rfl rfl ?_
        obtain ⟨c51, h51, e51, E⟩ := qbn_el E
        refine qt_callVi (b2 := 0) [.int x2] (c_X0_chosen x2 h43 e51) cv_RX11_251 (wl_40 h43) rfl rfl rfl (Nat.le_of_ble_eq_true rfl) (Nat.le_of_ble_eq_true rfl) dX11_plan_51 ?_
        exact qt_ireturn rfl (Nat.le_of_ble_eq_true rfl) dX11_plan_54 E G
      · refine qt_bipush dX11_plan_31 cb_m2 ?_
        exact qt_ireturn rfl (Nat.le_of_ble_eq_true rfl) dX11_plan_33 E G
    · refine qt_iconst dX11_plan_16 ci_m1 ?_
      exact qt_ireturn rfl (Nat.le_of_ble_eq_true rfl) dX11_plan_17 E G
noncomputable def m_X11_fresh (x1 : Int32) (x2 : Int32) (x3 : Int32) (h : qa_M) : Option (Int32 × qa_M) :=
  qbn (m_X11_known x1 h) (fun (c2 : Int32) (h2 : qa_M) =>
  if c2 = 0 then (
   some ((-1 : Int32), h2))
  else (
   if x2 < (1 : Int32) then (
    some ((-1 : Int32), h2))
   else (
    if (9 : Int32) < x2 then (
     some ((-1 : Int32), h2))
    else (
     qbn (m_X11_within x3 (2 : Int32) h2) (fun (c21 : Int32) (h21 : qa_M) =>
     if c21 = 0 then (
      some ((-1 : Int32), h21))
     else (
      qbn (m_X3_open h21) (fun (c36 : Int64) (h36 : qa_M) =>
      if c36 = (0 : Int64) then (
       some ((-2 : Int32), h36))
      else (
       qbv (m_X11_lookFrom x1 x2 h36) (fun h50 : qa_M =>
       qbv (m_X0_chooseView h50) (fun h57 : qa_M =>
       qbn (m_X0_chosen x3 h57) (fun (c65 : Int32) (h65 : qa_M) =>
       some (c65, h65))))))))))))
set_option maxRecDepth 20000 in
theorem c_X11_fresh {l : Launch} {g : qa_G} {d : Nat} (x1 : Int32) (x2 : Int32) (x3 : Int32) (h : qa_M) {c : Int32} {h1 : qa_M} (E : m_X11_fresh x1 x2 x3 h = some (c, h1)) : qt_Met l g (yX11_fresh, cX11_fresh, 4, (some .int)) (d + 7) 0 [.ref (g.1 + 0), .int x1, .int x2, .int x3] h (some (.int c)) h1 := by
  refine qt_Met.of (plainFor_of_name (by decide)) (Nat.le_of_ble_eq_true rfl) ?_
  have G : qg_i (some (.int c)) h1 ((c, h1)) := ⟨rfl, rfl⟩
  unfold m_X11_fresh at E
  refine qt_aload_n 0 dX11_fresh_0 rfl rfl ?_
  refine qt_iload_n 1 dX11_fresh_1 rfl rfl ?_
  obtain ⟨c2, h2, e2, E⟩ := qbn_el E
  refine qt_callVi (b2 := 0) [.int x1] (c_X11_known x1 h e2) cv_RX11_187 (wl_0 h) rfl rfl rfl (Nat.le_of_ble_eq_true rfl) (Nat.le_of_ble_eq_true rfl) dX11_fresh_2 ?_
  refine qt_if_eq 27 dX11_fresh_5 (by decide) E (fun E => ?_) (fun E => ?_)
  · refine qt_iconst dX11_fresh_27 ci_m1 ?_
    exact qt_ireturn rfl (Nat.le_of_ble_eq_true rfl) dX11_fresh_28 E G
  · refine qt_iload_n 2 dX11_fresh_8 rfl rfl ?_
    refine qt_iconst dX11_fresh_9 ci_1 ?_
    refine qt_icmp_lt 27 dX11_fresh_10 (by decide) E (fun E => ?_) (fun E => ?_)
    · refine qt_iconst dX11_fresh_27 ci_m1 ?_
      exact qt_ireturn rfl (Nat.le_of_ble_eq_true rfl) dX11_fresh_28 E G
    · refine qt_iload_n 2 dX11_fresh_13 rfl rfl ?_
      refine qt_bipush dX11_fresh_14 cb_9 ?_
      refine qt_icmp_gt 27 dX11_fresh_16 (by decide) E (fun E => ?_) (fun E => ?_)
      · refine qt_iconst dX11_fresh_27 ci_m1 ?_
        exact qt_ireturn rfl (Nat.le_of_ble_eq_true rfl) dX11_fresh_28 E G
      · refine qt_iload_n 3 dX11_fresh_19 rfl rfl ?_
        refine qt_iconst dX11_fresh_20 ci_2 ?_
        obtain ⟨c21, h21, e21, E⟩ := qbn_el E
        refine qt_callSi (b2 := 0) [.int x3, .int (2 : Int32)] (c_X11_within x3 (2 : Int32) h2 e21) cv_RX11_130 rfl (Nat.le_of_ble_eq_true rfl) (Nat.le_of_ble_eq_true rfl) dX11_fresh_21 ?_
        refine qt_if_ne 29 dX11_fresh_24 (by decide) E (fun E => ?_) (fun E => ?_)
        · refine qt_aload_n 0 dX11_fresh_29 rfl rfl ?_
          refine qt_getS 3 (wl_0 h21) fe_RX11_19 rfl dX11_fresh_30 ?_
          refine qt_getS 4 (wl_3 h21) fe_RX11_108 rfl dX11_fresh_33 ?_
          obtain ⟨c36, h36, e36, E⟩ := qbn_el E
          refine qt_callVl (b2 := 0) [] (c_X3_open h21 e36) cv_RX11_263 (wl_4 h21) rfl rfl rfl (Nat.le_of_ble_eq_true rfl) (Nat.le_of_ble_eq_true rfl) dX11_fresh_36 ?_
          refine qt_lconst dX11_fresh_39 cl_0 ?_
          refine qt_lc_ne 47 dX11_fresh_40 dX11_fresh_41 (by decide) E (fun E => ?_) (fun E => ?_)
          · refine qt_aload_n 0 dX11_fresh_47 rfl rfl ?_
            refine qt_iload_n 1 dX11_fresh_48 rfl rfl ?_
            refine qt_iload_n 2 dX11_fresh_49 rfl rfl ?_
            obtain ⟨h50, e50, E⟩ := qbv_el E
            refine qt_callVv (b2 := 0) [.int x1, .int x2] (c_X11_lookFrom x1 x2 h36 e50) cv_RX11_241 (wl_0 h36) rfl rfl rfl (Nat.le_of_ble_eq_true rfl) (Nat.le_of_ble_eq_true rfl) dX11_fresh_50 ?_
            refine qt_aload_n 0 dX11_fresh_53 rfl rfl ?_
            refine qt_getS 40 (wl_0 h50) fe_RX11_81 rfl dX11_fresh_54 ?_
            obtain ⟨h57, e57, E⟩ := qbv_el E
            refine qt_callVv (b2 := 0) [] (c_X0_chooseView h50 e57) cv_RX11_248 (wl_40 h50) rfl rfl rfl (Nat.le_of_ble_eq_true rfl) (Nat.le_of_ble_eq_true rfl) dX11_fresh_57 ?_
            refine qt_aload_n 0 dX11_fresh_60 rfl rfl ?_
            refine qt_getS 40 (wl_0 h57) fe_RX11_81 rfl dX11_fresh_61 ?_
            refine qt_iload_n 3 dX11_fresh_64 rfl rfl ?_
            obtain ⟨c65, h65, e65, E⟩ := qbn_el E
            refine qt_callVi (b2 := 0) [.int x3] (c_X0_chosen x3 h57 e65) cv_RX11_251 (wl_40 h57) rfl rfl rfl (Nat.le_of_ble_eq_true rfl) (Nat.le_of_ble_eq_true rfl) dX11_fresh_65 ?_
            exact qt_ireturn rfl (Nat.le_of_ble_eq_true rfl) dX11_fresh_68 E G
          · refine qt_bipush dX11_fresh_44 cb_m2 ?_
            exact qt_ireturn rfl (Nat.le_of_ble_eq_true rfl) dX11_fresh_46 E G
        · refine qt_iconst dX11_fresh_27 ci_m1 ?_
          exact qt_ireturn rfl (Nat.le_of_ble_eq_true rfl) dX11_fresh_28 E G
noncomputable def f_X10_spread_b115 (x2 : Int32) (x3 : Int64) (x5 : Int32) (h : qa_M) : Option ((Int32 × Int64 × Int32 × qa_M) ⊕ qa_M) :=
  qbn (m_X2_grow x3 h) (fun (c117 : Int64) (h117 : qa_M) =>
  qbn (m_X3_open h117) (fun (c121 : Int64) (h121 : qa_M) =>
  qbd (x3 ||| (c117 &&& c121)) (fun v126 : Int64 =>
  qbd (x5 + (1 : Int32)) (fun v127 : Int32 =>
  some (.inl (x2, v126, v127, h121))))))
set_option maxRecDepth 20000 in
theorem s_X10_spread_b115 {l : Launch} {g : qa_G} {d : Nat} {rz : Option Value} {hz : qa_M} (x2 : Int32) (x3 : Int64) (x5 : Int32) (h : qa_M) {z : ((Int32 × Int64 × Int32 × qa_M) ⊕ qa_M)} (E : f_X10_spread_b115 x2 x3 x5 h = some z) (G : (Sum.elim (fun (sz : Int32 × Int64 × Int32 × qa_M) => qt_At l g (yX10_spread, cX10_spread, 8, none) (d + 1) 0 0 44 [(0, .ref (g.1 + 48)), (1, .ref (g.1 + 4)), (2, .int sz.1), (3, .long sz.2.1), (5, .int sz.2.2.1)] [] sz.2.2.2 rz hz) (qg_v rz hz)) z) : qt_At l g (yX10_spread, cX10_spread, 8, none) (d + 1) 0 0 115 [(0, .ref (g.1 + 48)), (1, .ref (g.1 + 4)), (2, .int x2), (3, .long x3), (5, .int x5)] [] h rz hz := by
  unfold f_X10_spread_b115 at E
  refine qt_lload_n 3 dX10_spread_115 rfl rfl ?_
  refine qt_lload_n 3 dX10_spread_116 rfl rfl ?_
  obtain ⟨c117, h117, e117, E⟩ := qbn_el E
  refine qt_callSl (b2 := 0) [.long x3] (c_X2_grow x3 h e117) cv_RX10_48 rfl (Nat.le_of_ble_eq_true rfl) (Nat.le_of_ble_eq_true rfl) dX10_spread_117 ?_
  refine qt_aload_n 1 dX10_spread_120 rfl rfl ?_
  obtain ⟨c121, h121, e121, E⟩ := qbn_el E
  refine qt_callVl (b2 := 0) [] (c_X3_open h117 e121) cv_RX10_54 (wl_4 h117) rfl rfl rfl (Nat.le_of_ble_eq_true rfl) (Nat.le_of_ble_eq_true rfl) dX10_spread_121 ?_
  refine qt_land dX10_spread_124 ?_
  refine qt_lor dX10_spread_125 ?_
  refine qt_lstore_n (fun v126 => [(3, .long v126), (0, .ref (g.1 + 48)), (1, .ref (g.1 + 4)), (2, .int x2), (5, .int x5)]) dX10_spread_126 rfl (Nat.le_of_ble_eq_true rfl) (fun _ => rfl) E (fun v126 E => ?_)
  refine qt_iinc 4 (fun v127 => [(5, .int v127), (3, .long v126), (0, .ref (g.1 + 48)), (1, .ref (g.1 + 4)), (2, .int x2)]) dX10_spread_127 rfl ci_1 (Nat.le_of_ble_eq_true rfl) (fun _ => rfl) E (fun v127 E => ?_)
  refine qt_goto 44 dX10_spread_130 (by decide) ?_
  cases E
  exact qt_sub _ [2, 3, 4, 1, 0] rfl (G)
noncomputable def f_X10_spread_b109 (x2 : Int32) (x3 : Int64) (x5 : Int32) (x6 : Int32) (h : qa_M) : Option ((Int32 × Int64 × Int32 × Int32 × qa_M) ⊕ ((Int32 × Int64 × Int32 × qa_M) ⊕ qa_M)) :=
  qbd (x6 + (1 : Int32)) (fun v109 : Int32 =>
  some (.inl (x2, x3, x5, v109, h)))
set_option maxRecDepth 20000 in
theorem s_X10_spread_b109 {l : Launch} {g : qa_G} {d : Nat} {rz : Option Value} {hz : qa_M} (x2 : Int32) (x3 : Int64) (x5 : Int32) (x6 : Int32) (h : qa_M) {z : ((Int32 × Int64 × Int32 × Int32 × qa_M) ⊕ ((Int32 × Int64 × Int32 × qa_M) ⊕ qa_M))} (E : f_X10_spread_b109 x2 x3 x5 x6 h = some z) (G : (Sum.elim (fun (sz : Int32 × Int64 × Int32 × Int32 × qa_M) => qt_At l g (yX10_spread, cX10_spread, 8, none) (d + 1) 0 0 54 [(0, .ref (g.1 + 48)), (1, .ref (g.1 + 4)), (2, .int sz.1), (3, .long sz.2.1), (5, .int sz.2.2.1), (6, .int sz.2.2.2.1)] [] sz.2.2.2.2 rz hz) (Sum.elim (fun (sz : Int32 × Int64 × Int32 × qa_M) => qt_At l g (yX10_spread, cX10_spread, 8, none) (d + 1) 0 0 44 [(0, .ref (g.1 + 48)), (1, .ref (g.1 + 4)), (2, .int sz.1), (3, .long sz.2.1), (5, .int sz.2.2.1)] [] sz.2.2.2 rz hz) (qg_v rz hz))) z) : qt_At l g (yX10_spread, cX10_spread, 8, none) (d + 1) 0 0 109 [(0, .ref (g.1 + 48)), (1, .ref (g.1 + 4)), (2, .int x2), (3, .long x3), (5, .int x5), (6, .int x6)] [] h rz hz := by
  unfold f_X10_spread_b109 at E
  refine qt_iinc 5 (fun v109 => [(6, .int v109), (0, .ref (g.1 + 48)), (1, .ref (g.1 + 4)), (2, .int x2), (3, .long x3), (5, .int x5)]) dX10_spread_109 rfl ci_1 (Nat.le_of_ble_eq_true rfl) (fun _ => rfl) E (fun v109 E => ?_)
  refine qt_goto 54 dX10_spread_112 (by decide) ?_
  cases E
  exact qt_sub _ [1, 2, 3, 4, 5, 0] rfl (G)
noncomputable def f_X10_spread_b54 (x2 : Int32) (x3 : Int64) (x5 : Int32) (x6 : Int32) (h : qa_M) : Option ((Int32 × Int64 × Int32 × Int32 × qa_M) ⊕ ((Int32 × Int64 × Int32 × qa_M) ⊕ qa_M)) :=
  if (h.1 4 2) ≤ x6 then (
   qup (f_X10_spread_b115 x2 x3 x5 h))
  else (
   qbd ((x2 * (8 : Int32)) + x6) (fun v70 : Int32 =>
   qck x6 8 (
   if ((q_lushr x3 (h.1 5 x6.toNatClampNeg)) &&& (1 : Int64)) = (0 : Int64) then (
    f_X10_spread_b109 x2 x3 x5 x6 h)
   else (
    qck v70 64 (
    if (h.1 49 v70.toNatClampNeg) = (1000000 : Int32) then (
     qck v70 64 (
     qbd (qw_I h 49 v70.toNatClampNeg x5) (fun h108 : qa_M =>
     f_X10_spread_b109 x2 x3 x5 x6 h108)))
    else (
     f_X10_spread_b109 x2 x3 x5 x6 h))))))
set_option maxRecDepth 20000 in
theorem s_X10_spread_b54 {l : Launch} {g : qa_G} {d : Nat} {rz : Option Value} {hz : qa_M} (x2 : Int32) (x3 : Int64) (x5 : Int32) (x6 : Int32) (h : qa_M) {z : ((Int32 × Int64 × Int32 × Int32 × qa_M) ⊕ ((Int32 × Int64 × Int32 × qa_M) ⊕ qa_M))} (E : f_X10_spread_b54 x2 x3 x5 x6 h = some z) (G : (Sum.elim (fun (sz : Int32 × Int64 × Int32 × Int32 × qa_M) => qt_At l g (yX10_spread, cX10_spread, 8, none) (d + 1) 0 0 54 [(0, .ref (g.1 + 48)), (1, .ref (g.1 + 4)), (2, .int sz.1), (3, .long sz.2.1), (5, .int sz.2.2.1), (6, .int sz.2.2.2.1)] [] sz.2.2.2.2 rz hz) (Sum.elim (fun (sz : Int32 × Int64 × Int32 × qa_M) => qt_At l g (yX10_spread, cX10_spread, 8, none) (d + 1) 0 0 44 [(0, .ref (g.1 + 48)), (1, .ref (g.1 + 4)), (2, .int sz.1), (3, .long sz.2.1), (5, .int sz.2.2.1)] [] sz.2.2.2 rz hz) (qg_v rz hz))) z) : qt_At l g (yX10_spread, cX10_spread, 8, none) (d + 1) 0 0 54 [(0, .ref (g.1 + 48)), (1, .ref (g.1 + 4)), (2, .int x2), (3, .long x3), (5, .int x5), (6, .int x6)] [] h rz hz := by
  unfold f_X10_spread_b54 at E
  refine qt_iload 5 dX10_spread_54 rfl ?_
  refine qt_aload_n 1 dX10_spread_56 rfl rfl ?_
  refine qt_getI (wl_4 h) fe_RX10_18 rfl dX10_spread_57 ?_
  refine qt_icmp_ge 115 dX10_spread_60 (by decide) E (fun E => ?_) (fun E => ?_)
  · obtain ⟨z0_, E, G⟩ := qup_g E G
    exact qt_sub _ [0, 1, 2, 3, 4] rfl ((s_X10_spread_b115 x2 x3 x5 h E G))
  · refine qt_iload_n 2 dX10_spread_63 rfl rfl ?_
    refine qt_bipush dX10_spread_64 cb_8 ?_
    refine qt_imul dX10_spread_66 ?_
    refine qt_iload 5 dX10_spread_67 rfl ?_
    refine qt_iadd dX10_spread_69 ?_
    refine qt_istore (fun v70 => [(7, .int v70), (0, .ref (g.1 + 48)), (1, .ref (g.1 + 4)), (2, .int x2), (3, .long x3), (5, .int x5), (6, .int x6)]) dX10_spread_70 (Nat.le_of_ble_eq_true rfl) (fun _ => rfl) E (fun v70 E => ?_)
    refine qt_lload_n 4 dX10_spread_72 rfl rfl ?_
    refine qt_aload_n 2 dX10_spread_73 rfl rfl ?_
    refine qt_getS 5 (wl_4 h) fe_RX10_45 rfl dX10_spread_74 ?_
    refine qt_iload 6 dX10_spread_77 rfl ?_
    refine qt_iald (wl_5 h) dX10_spread_79 E (fun E => ?_)
    refine qt_lushr dX10_spread_80 ?_
    refine qt_lconst dX10_spread_81 cl_1 ?_
    refine qt_land dX10_spread_82 ?_
    refine qt_lconst dX10_spread_83 cl_0 ?_
    refine qt_lc_eq 109 dX10_spread_84 dX10_spread_85 (by decide) E (fun E => ?_) (fun E => ?_)
    · exact qt_sub _ [1, 2, 3, 4, 5, 6] rfl ((s_X10_spread_b109 x2 x3 x5 x6 h E G))
    · refine qt_aload_n 1 dX10_spread_88 rfl rfl ?_
      refine qt_getS 49 (wl_48 h) fe_RX10_9 rfl dX10_spread_89 ?_
      refine qt_iload 0 dX10_spread_92 rfl ?_
      refine qt_iald (wl_49 h) dX10_spread_94 E (fun E => ?_)
      refine qt_ldc tb_1287 dX10_spread_95 ?_
      refine qt_icmp_ne 109 dX10_spread_97 (by decide) E (fun E => ?_) (fun E => ?_)
      · exact qt_sub _ [1, 2, 3, 4, 5, 6] rfl ((s_X10_spread_b109 x2 x3 x5 x6 h E G))
      · refine qt_aload_n 1 dX10_spread_100 rfl rfl ?_
        refine qt_getS 49 (wl_48 h) fe_RX10_9 rfl dX10_spread_101 ?_
        refine qt_iload 0 dX10_spread_104 rfl ?_
        refine qt_iload 5 dX10_spread_106 rfl ?_
        refine qt_iast (wl_49 h) dX10_spread_108 E (fun h108 E => ?_)
        exact qt_sub _ [1, 2, 3, 4, 5, 6] rfl ((s_X10_spread_b109 x2 x3 x5 x6 h108 E G))
noncomputable def f_X10_spread_b54_loop (x2 : Int32) (x3 : Int64) (x5 : Int32) (x6 : Int32) (h : qa_M) : Option ((Int32 × Int64 × Int32 × qa_M) ⊕ qa_M) := qlp (fun sz : Int32 × Int64 × Int32 × Int32 × qa_M => f_X10_spread_b54 sz.1 sz.2.1 sz.2.2.1 sz.2.2.2.1 sz.2.2.2.2) (x2, x3, x5, x6, h)
theorem s_X10_spread_b54_loop {l : Launch} {g : qa_G} {d : Nat} {rz : Option Value} {hz : qa_M} (x2 : Int32) (x3 : Int64) (x5 : Int32) (x6 : Int32) (h : qa_M) {z : ((Int32 × Int64 × Int32 × qa_M) ⊕ qa_M)} (E : f_X10_spread_b54_loop x2 x3 x5 x6 h = some z) (G : (Sum.elim (fun (sz : Int32 × Int64 × Int32 × qa_M) => qt_At l g (yX10_spread, cX10_spread, 8, none) (d + 1) 0 0 44 [(0, .ref (g.1 + 48)), (1, .ref (g.1 + 4)), (2, .int sz.1), (3, .long sz.2.1), (5, .int sz.2.2.1)] [] sz.2.2.2 rz hz) (qg_v rz hz)) z) : qt_At l g (yX10_spread, cX10_spread, 8, none) (d + 1) 0 0 54 [(0, .ref (g.1 + 48)), (1, .ref (g.1 + 4)), (2, .int x2), (3, .long x3), (5, .int x5), (6, .int x6)] [] h rz hz :=
  qlp_ind (fun sz : Int32 × Int64 × Int32 × Int32 × qa_M => qt_At l g (yX10_spread, cX10_spread, 8, none) (d + 1) 0 0 54 [(0, .ref (g.1 + 48)), (1, .ref (g.1 + 4)), (2, .int sz.1), (3, .long sz.2.1), (5, .int sz.2.2.1), (6, .int sz.2.2.2.1)] [] sz.2.2.2.2 rz hz) (fun sz E => s_X10_spread_b54 sz.1 sz.2.1 sz.2.2.1 sz.2.2.2.1 sz.2.2.2.2 E G) (fun sz sz2 E ih => s_X10_spread_b54 sz.1 sz.2.1 sz.2.2.1 sz.2.2.2.1 sz.2.2.2.2 E ih) (x2, x3, x5, x6, h) E
noncomputable def f_X10_spread_b44 (x2 : Int32) (x3 : Int64) (x5 : Int32) (h : qa_M) : Option ((Int32 × Int64 × Int32 × qa_M) ⊕ qa_M) :=
  if (36 : Int32) ≤ x5 then (
   qup (some h))
  else (
   qbd (0 : Int32) (fun v52 : Int32 =>
   f_X10_spread_b54_loop x2 x3 x5 v52 h))
set_option maxRecDepth 20000 in
theorem s_X10_spread_b44 {l : Launch} {g : qa_G} {d : Nat} {rz : Option Value} {hz : qa_M} (x2 : Int32) (x3 : Int64) (x5 : Int32) (h : qa_M) {z : ((Int32 × Int64 × Int32 × qa_M) ⊕ qa_M)} (E : f_X10_spread_b44 x2 x3 x5 h = some z) (G : (Sum.elim (fun (sz : Int32 × Int64 × Int32 × qa_M) => qt_At l g (yX10_spread, cX10_spread, 8, none) (d + 1) 0 0 44 [(0, .ref (g.1 + 48)), (1, .ref (g.1 + 4)), (2, .int sz.1), (3, .long sz.2.1), (5, .int sz.2.2.1)] [] sz.2.2.2 rz hz) (qg_v rz hz)) z) : qt_At l g (yX10_spread, cX10_spread, 8, none) (d + 1) 0 0 44 [(0, .ref (g.1 + 48)), (1, .ref (g.1 + 4)), (2, .int x2), (3, .long x3), (5, .int x5)] [] h rz hz := by
  unfold f_X10_spread_b44 at E
  refine qt_iload 4 dX10_spread_44 rfl ?_
  refine qt_bipush dX10_spread_46 cb_36 ?_
  refine qt_icmp_ge 133 dX10_spread_48 (by decide) E (fun E => ?_) (fun E => ?_)
  · obtain ⟨z0_, E, G⟩ := qup_g E G
    exact qt_vreturn rfl (Nat.le_of_ble_eq_true rfl) dX10_spread_133 E G
  · refine qt_iconst dX10_spread_51 ci_0 ?_
    refine qt_istore (fun v52 => [(6, .int v52), (0, .ref (g.1 + 48)), (1, .ref (g.1 + 4)), (2, .int x2), (3, .long x3), (5, .int x5)]) dX10_spread_52 (Nat.le_of_ble_eq_true rfl) (fun _ => rfl) E (fun v52 E => ?_)
    exact qt_sub _ [1, 2, 3, 4, 5, 0] rfl ((s_X10_spread_b54_loop x2 x3 x5 v52 h E G))
noncomputable def f_X10_spread_b44_loop (x2 : Int32) (x3 : Int64) (x5 : Int32) (h : qa_M) : Option qa_M := qlp (fun sz : Int32 × Int64 × Int32 × qa_M => f_X10_spread_b44 sz.1 sz.2.1 sz.2.2.1 sz.2.2.2) (x2, x3, x5, h)
theorem s_X10_spread_b44_loop {l : Launch} {g : qa_G} {d : Nat} {rz : Option Value} {hz : qa_M} (x2 : Int32) (x3 : Int64) (x5 : Int32) (h : qa_M) {z : qa_M} (E : f_X10_spread_b44_loop x2 x3 x5 h = some z) (G : (qg_v rz hz) z) : qt_At l g (yX10_spread, cX10_spread, 8, none) (d + 1) 0 0 44 [(0, .ref (g.1 + 48)), (1, .ref (g.1 + 4)), (2, .int x2), (3, .long x3), (5, .int x5)] [] h rz hz :=
  qlp_ind (fun sz : Int32 × Int64 × Int32 × qa_M => qt_At l g (yX10_spread, cX10_spread, 8, none) (d + 1) 0 0 44 [(0, .ref (g.1 + 48)), (1, .ref (g.1 + 4)), (2, .int sz.1), (3, .long sz.2.1), (5, .int sz.2.2.1)] [] sz.2.2.2 rz hz) (fun sz E => s_X10_spread_b44 sz.1 sz.2.1 sz.2.2.1 sz.2.2.2 E G) (fun sz sz2 E ih => s_X10_spread_b44 sz.1 sz.2.1 sz.2.2.1 sz.2.2.2 E ih) (x2, x3, x5, h) E
noncomputable def f_X10_spread_b41 (x2 : Int32) (x3 : Int64) (h : qa_M) : Option qa_M :=
  qbd (0 : Int32) (fun v42 : Int32 =>
  f_X10_spread_b44_loop x2 x3 v42 h)
set_option maxRecDepth 20000 in
theorem s_X10_spread_b41 {l : Launch} {g : qa_G} {d : Nat} {rz : Option Value} {hz : qa_M} (x2 : Int32) (x3 : Int64) (h : qa_M) {z : qa_M} (E : f_X10_spread_b41 x2 x3 h = some z) (G : (qg_v rz hz) z) : qt_At l g (yX10_spread, cX10_spread, 8, none) (d + 1) 0 0 41 [(0, .ref (g.1 + 48)), (1, .ref (g.1 + 4)), (2, .int x2), (3, .long x3)] [] h rz hz := by
  unfold f_X10_spread_b41 at E
  refine qt_iconst dX10_spread_41 ci_0 ?_
  refine qt_istore (fun v42 => [(5, .int v42), (0, .ref (g.1 + 48)), (1, .ref (g.1 + 4)), (2, .int x2), (3, .long x3)]) dX10_spread_42 (Nat.le_of_ble_eq_true rfl) (fun _ => rfl) E (fun v42 E => ?_)
  exact qt_sub _ [1, 2, 3, 4, 0] rfl ((s_X10_spread_b44_loop x2 x3 v42 h E G))
noncomputable def f_X10_spread_b12 (x2 : Int32) (x3 : Int64) (x5 : Int32) (h : qa_M) : Option ((Int32 × Int64 × Int32 × qa_M) ⊕ qa_M) :=
  if (h.1 4 2) ≤ x5 then (
   qup (f_X10_spread_b41 x2 x3 h))
  else (
   qck ((x2 * (8 : Int32)) + x5) 64 (
   qbd (qw_I h 49 ((x2 * (8 : Int32)) + x5).toNatClampNeg (1000000 : Int32)) (fun h34 : qa_M =>
   qbd (x5 + (1 : Int32)) (fun v35 : Int32 =>
   some (.inl (x2, x3, v35, h34))))))
set_option maxRecDepth 20000 in
theorem s_X10_spread_b12 {l : Launch} {g : qa_G} {d : Nat} {rz : Option Value} {hz : qa_M} (x2 : Int32) (x3 : Int64) (x5 : Int32) (h : qa_M) {z : ((Int32 × Int64 × Int32 × qa_M) ⊕ qa_M)} (E : f_X10_spread_b12 x2 x3 x5 h = some z) (G : (Sum.elim (fun (sz : Int32 × Int64 × Int32 × qa_M) => qt_At l g (yX10_spread, cX10_spread, 8, none) (d + 1) 0 0 12 [(0, .ref (g.1 + 48)), (1, .ref (g.1 + 4)), (2, .int sz.1), (3, .long sz.2.1), (5, .int sz.2.2.1)] [] sz.2.2.2 rz hz) (qg_v rz hz)) z) : qt_At l g (yX10_spread, cX10_spread, 8, none) (d + 1) 0 0 12 [(0, .ref (g.1 + 48)), (1, .ref (g.1 + 4)), (2, .int x2), (3, .long x3), (5, .int x5)] [] h rz hz := by
  unfold f_X10_spread_b12 at E
  refine qt_iload 4 dX10_spread_12 rfl ?_
  refine qt_aload_n 1 dX10_spread_14 rfl rfl ?_
  refine qt_getI (wl_4 h) fe_RX10_18 rfl dX10_spread_15 ?_
  refine qt_icmp_ge 41 dX10_spread_18 (by decide) E (fun E => ?_) (fun E => ?_)
  · obtain ⟨z0_, E, G⟩ := qup_g E G
    exact qt_sub _ [0, 1, 2, 3] rfl ((s_X10_spread_b41 x2 x3 h E G))
  · refine qt_aload_n 0 dX10_spread_21 rfl rfl ?_
    refine qt_getS 49 (wl_48 h) fe_RX10_9 rfl dX10_spread_22 ?_
    refine qt_iload_n 2 dX10_spread_25 rfl rfl ?_
    refine qt_bipush dX10_spread_26 cb_8 ?_
    refine qt_imul dX10_spread_28 ?_
    refine qt_iload 4 dX10_spread_29 rfl ?_
    refine qt_iadd dX10_spread_31 ?_
    refine qt_ldc tb_1287 dX10_spread_32 ?_
    refine qt_iast (wl_49 h) dX10_spread_34 E (fun h34 E => ?_)
    refine qt_iinc 4 (fun v35 => [(5, .int v35), (0, .ref (g.1 + 48)), (1, .ref (g.1 + 4)), (2, .int x2), (3, .long x3)]) dX10_spread_35 rfl ci_1 (Nat.le_of_ble_eq_true rfl) (fun _ => rfl) E (fun v35 E => ?_)
    refine qt_goto 12 dX10_spread_38 (by decide) ?_
    cases E
    exact qt_sub _ [1, 2, 3, 4, 0] rfl (G)
noncomputable def f_X10_spread_b12_loop (x2 : Int32) (x3 : Int64) (x5 : Int32) (h : qa_M) : Option qa_M := qlp (fun sz : Int32 × Int64 × Int32 × qa_M => f_X10_spread_b12 sz.1 sz.2.1 sz.2.2.1 sz.2.2.2) (x2, x3, x5, h)
theorem s_X10_spread_b12_loop {l : Launch} {g : qa_G} {d : Nat} {rz : Option Value} {hz : qa_M} (x2 : Int32) (x3 : Int64) (x5 : Int32) (h : qa_M) {z : qa_M} (E : f_X10_spread_b12_loop x2 x3 x5 h = some z) (G : (qg_v rz hz) z) : qt_At l g (yX10_spread, cX10_spread, 8, none) (d + 1) 0 0 12 [(0, .ref (g.1 + 48)), (1, .ref (g.1 + 4)), (2, .int x2), (3, .long x3), (5, .int x5)] [] h rz hz :=
  qlp_ind (fun sz : Int32 × Int64 × Int32 × qa_M => qt_At l g (yX10_spread, cX10_spread, 8, none) (d + 1) 0 0 12 [(0, .ref (g.1 + 48)), (1, .ref (g.1 + 4)), (2, .int sz.1), (3, .long sz.2.1), (5, .int sz.2.2.1)] [] sz.2.2.2 rz hz) (fun sz E => s_X10_spread_b12 sz.1 sz.2.1 sz.2.2.1 sz.2.2.2 E G) (fun sz sz2 E ih => s_X10_spread_b12 sz.1 sz.2.1 sz.2.2.1 sz.2.2.2 E ih) (x2, x3, x5, h) E
noncomputable def m_X10_spread (x2 : Int32) (h : qa_M) : Option qa_M :=
  qck x2 8 (
  qbd (q_lshl (1 : Int64) (h.1 5 x2.toNatClampNeg)) (fun v8 : Int64 =>
  qbd (0 : Int32) (fun v10 : Int32 =>
  f_X10_spread_b12_loop x2 v8 v10 h)))
set_option maxRecDepth 20000 in
theorem c_X10_spread {l : Launch} {g : qa_G} {d : Nat} (x2 : Int32) (h : qa_M) {h1 : qa_M} (E : m_X10_spread x2 h = some h1) : qt_Met l g (yX10_spread, cX10_spread, 8, none) (d + 1) 0 [.ref (g.1 + 48), .ref (g.1 + 4), .int x2] h none h1 := by
  refine qt_Met.of (plainFor_of_name (by decide)) (Nat.le_of_ble_eq_true rfl) ?_
  have G : qg_v none h1 (h1) := ⟨rfl, rfl⟩
  unfold m_X10_spread at E
  refine qt_lconst dX10_spread_0 cl_1 ?_
  refine qt_aload_n 1 dX10_spread_1 rfl rfl ?_
  refine qt_getS 5 (wl_4 h) fe_RX10_45 rfl dX10_spread_2 ?_
  refine qt_iload_n 2 dX10_spread_5 rfl rfl ?_
  refine qt_iald (wl_5 h) dX10_spread_6 E (fun E => ?_)
  refine qt_lshl dX10_spread_7 ?_
  refine qt_lstore_n (fun v8 => [(3, .long v8), (0, .ref (g.1 + 48)), (1, .ref (g.1 + 4)), (2, .int x2)]) dX10_spread_8 rfl (Nat.le_of_ble_eq_true rfl) (fun _ => rfl) E (fun v8 E => ?_)
  refine qt_iconst dX10_spread_9 ci_0 ?_
  refine qt_istore (fun v10 => [(5, .int v10), (3, .long v8), (0, .ref (g.1 + 48)), (1, .ref (g.1 + 4)), (2, .int x2)]) dX10_spread_10 (Nat.le_of_ble_eq_true rfl) (fun _ => rfl) E (fun v10 E => ?_)
  exact qt_sub _ [2, 3, 4, 1, 0] rfl ((s_X10_spread_b12_loop x2 v8 v10 h E G))
noncomputable def f_X10_goOn_b93 (x2 : Int32) (x3 : Int32) (x4 : Int32) (x5 : Int32) (x6 : Int32) (h : qa_M) : Option ((Int32 × Int32 × Int32 × Int32 × Int32 × qa_M) ⊕ qa_M) :=
  qbd (x6 + (1 : Int32)) (fun v93 : Int32 =>
  some (.inl (x2, x3, x4, x5, v93, h)))
set_option maxRecDepth 20000 in
theorem s_X10_goOn_b93 {l : Launch} {g : qa_G} {d : Nat} {rz : Option Value} {hz : qa_M} (x2 : Int32) (x3 : Int32) (x4 : Int32) (x5 : Int32) (x6 : Int32) (h : qa_M) {z : ((Int32 × Int32 × Int32 × Int32 × Int32 × qa_M) ⊕ qa_M)} (E : f_X10_goOn_b93 x2 x3 x4 x5 x6 h = some z) (G : (Sum.elim (fun (sz : Int32 × Int32 × Int32 × Int32 × Int32 × qa_M) => qt_At l g (yX10_goOn, cX10_goOn, 8, none) (d + 1) 0 0 17 [(0, .ref (g.1 + 48)), (1, .ref (g.1 + 4)), (2, .int sz.1), (3, .int sz.2.1), (4, .int sz.2.2.1), (5, .int sz.2.2.2.1), (6, .int sz.2.2.2.2.1)] [] sz.2.2.2.2.2 rz hz) (qg_v rz hz)) z) : qt_At l g (yX10_goOn, cX10_goOn, 8, none) (d + 1) 0 0 93 [(0, .ref (g.1 + 48)), (1, .ref (g.1 + 4)), (2, .int x2), (3, .int x3), (4, .int x4), (5, .int x5), (6, .int x6)] [] h rz hz := by
  unfold f_X10_goOn_b93 at E
  refine qt_iinc 6 (fun v93 => [(6, .int v93), (0, .ref (g.1 + 48)), (1, .ref (g.1 + 4)), (2, .int x2), (3, .int x3), (4, .int x4), (5, .int x5)]) dX10_goOn_93 rfl ci_1 (Nat.le_of_ble_eq_true rfl) (fun _ => rfl) E (fun v93 E => ?_)
  refine qt_goto 17 dX10_goOn_96 (by decide) ?_
  cases E
  exact qt_sub _ [1, 2, 3, 4, 5, 6, 0] rfl (G)
noncomputable def f_X10_goOn_b17 (x2 : Int32) (x3 : Int32) (x4 : Int32) (x5 : Int32) (x6 : Int32) (h : qa_M) : Option ((Int32 × Int32 × Int32 × Int32 × Int32 × qa_M) ⊕ qa_M) :=
  if (h.1 4 2) ≤ x6 then (
   qup (some h))
  else (
   if (1000000 : Int32) ≤ x5 then (
    qup (some h))
   else (
    if (((x2 &&& (x3 ^^^ (-1 : Int32))) >>> (x6 &&& 31)) &&& (1 : Int32)) = 0 then (
     f_X10_goOn_b93 x2 x3 x4 x5 x6 h)
    else (
     qbd (((x3 ||| ((1 : Int32) <<< (x6 &&& 31))) * (8 : Int32)) + x6) (fun v58 : Int32 =>
     qck v58 2048 (
     qck ((x4 * (8 : Int32)) + x6) 64 (
     qck v58 2048 (
     qbd (qw_I h 50 v58.toNatClampNeg (q_min (h.1 50 v58.toNatClampNeg) (x5 + (h.1 49 ((x4 * (8 : Int32)) + x6).toNatClampNeg)))) (fun h92 : qa_M =>
     f_X10_goOn_b93 x2 x3 x4 x5 x6 h92))))))))
set_option maxRecDepth 20000 in
theorem s_X10_goOn_b17 {l : Launch} {g : qa_G} {d : Nat} {rz : Option Value} {hz : qa_M} (x2 : Int32) (x3 : Int32) (x4 : Int32) (x5 : Int32) (x6 : Int32) (h : qa_M) {z : ((Int32 × Int32 × Int32 × Int32 × Int32 × qa_M) ⊕ qa_M)} (E : f_X10_goOn_b17 x2 x3 x4 x5 x6 h = some z) (G : (Sum.elim (fun (sz : Int32 × Int32 × Int32 × Int32 × Int32 × qa_M) => qt_At l g (yX10_goOn, cX10_goOn, 8, none) (d + 1) 0 0 17 [(0, .ref (g.1 + 48)), (1, .ref (g.1 + 4)), (2, .int sz.1), (3, .int sz.2.1), (4, .int sz.2.2.1), (5, .int sz.2.2.2.1), (6, .int sz.2.2.2.2.1)] [] sz.2.2.2.2.2 rz hz) (qg_v rz hz)) z) : qt_At l g (yX10_goOn, cX10_goOn, 8, none) (d + 1) 0 0 17 [(0, .ref (g.1 + 48)), (1, .ref (g.1 + 4)), (2, .int x2), (3, .int x3), (4, .int x4), (5, .int x5), (6, .int x6)] [] h rz hz := by
  unfold f_X10_goOn_b17 at E
  refine qt_iload 6 dX10_goOn_17 rfl ?_
  refine qt_aload_n 1 dX10_goOn_19 rfl rfl ?_
  refine qt_getI (wl_4 h) fe_RX10_18 rfl dX10_goOn_20 ?_
  refine qt_icmp_ge 99 dX10_goOn_23 (by decide) E (fun E => ?_) (fun E => ?_)
  · obtain ⟨z0_, E, G⟩ := qup_g E G
    exact qt_vreturn rfl (Nat.le_of_ble_eq_true rfl) dX10_goOn_99 E G
  · refine qt_iload 5 dX10_goOn_26 rfl ?_
    refine qt_ldc tb_1287 dX10_goOn_28 ?_
    refine qt_icmp_ge 99 dX10_goOn_30 (by decide) E (fun E => ?_) (fun E => ?_)
    · obtain ⟨z0_, E, G⟩ := qup_g E G
      exact qt_vreturn rfl (Nat.le_of_ble_eq_true rfl) dX10_goOn_99 E G
    · refine qt_iload_n 2 dX10_goOn_33 rfl rfl ?_
      refine qt_iload_n 3 dX10_goOn_34 rfl rfl ?_
      refine qt_iconst dX10_goOn_35 ci_m1 ?_
      refine qt_ixor dX10_goOn_36 ?_
      refine qt_iand dX10_goOn_37 ?_
      refine qt_iload 6 dX10_goOn_38 rfl ?_
      refine qt_ishr dX10_goOn_40 ?_
      refine qt_iconst dX10_goOn_41 ci_1 ?_
      refine qt_iand dX10_goOn_42 ?_
      refine qt_if_eq 93 dX10_goOn_43 (by decide) E (fun E => ?_) (fun E => ?_)
      · exact qt_sub _ [0, 1, 2, 3, 4, 5, 6] rfl ((s_X10_goOn_b93 x2 x3 x4 x5 x6 h E G))
      · refine qt_iload_n 3 dX10_goOn_46 rfl rfl ?_
        refine qt_iconst dX10_goOn_47 ci_1 ?_
        refine qt_iload 6 dX10_goOn_48 rfl ?_
        refine qt_ishl dX10_goOn_50 ?_
        refine qt_ior dX10_goOn_51 ?_
        refine qt_bipush dX10_goOn_52 cb_8 ?_
        refine qt_imul dX10_goOn_54 ?_
        refine qt_iload 6 dX10_goOn_55 rfl ?_
        refine qt_iadd dX10_goOn_57 ?_
        refine qt_istore (fun v58 => [(7, .int v58), (0, .ref (g.1 + 48)), (1, .ref (g.1 + 4)), (2, .int x2), (3, .int x3), (4, .int x4), (5, .int x5), (6, .int x6)]) dX10_goOn_58 (Nat.le_of_ble_eq_true rfl) (fun _ => rfl) E (fun v58 E => ?_)
        refine qt_aload_n 1 dX10_goOn_60 rfl rfl ?_
        refine qt_getS 50 (wl_48 h) fe_RX10_15 rfl dX10_goOn_61 ?_
        refine qt_iload 0 dX10_goOn_64 rfl ?_
        refine qt_aload_n 1 dX10_goOn_66 rfl rfl ?_
        refine qt_getS 50 (wl_48 h) fe_RX10_15 rfl dX10_goOn_67 ?_
        refine qt_iload 0 dX10_goOn_70 rfl ?_
        refine qt_iald (wl_50 h) dX10_goOn_72 E (fun E => ?_)
        refine qt_iload 6 dX10_goOn_73 rfl ?_
        refine qt_aload_n 1 dX10_goOn_75 rfl rfl ?_
        refine qt_getS 49 (wl_48 h) fe_RX10_9 rfl dX10_goOn_76 ?_
        refine qt_iload 5 dX10_goOn_79 rfl ?_
        refine qt_bipush dX10_goOn_81 cb_8 ?_
        refine qt_imul dX10_goOn_83 ?_
        refine qt_iload 7 dX10_goOn_84 rfl ?_
        refine qt_iadd dX10_goOn_86 ?_
        refine qt_iald (wl_49 h) dX10_goOn_87 E (fun E => ?_)
        refine qt_iadd dX10_goOn_88 ?_
        refine qt_mmin tb_1295 dX10_goOn_89 (Nat.le_of_ble_eq_true rfl) ?_
        refine qt_iast (wl_50 h) dX10_goOn_92 E (fun h92 E => ?_)
        exact qt_sub _ [1, 2, 3, 4, 5, 6, 7] rfl ((s_X10_goOn_b93 x2 x3 x4 x5 x6 h92 E G))
noncomputable def f_X10_goOn_b17_loop (x2 : Int32) (x3 : Int32) (x4 : Int32) (x5 : Int32) (x6 : Int32) (h : qa_M) : Option qa_M := qlp (fun sz : Int32 × Int32 × Int32 × Int32 × Int32 × qa_M => f_X10_goOn_b17 sz.1 sz.2.1 sz.2.2.1 sz.2.2.2.1 sz.2.2.2.2.1 sz.2.2.2.2.2) (x2, x3, x4, x5, x6, h)
theorem s_X10_goOn_b17_loop {l : Launch} {g : qa_G} {d : Nat} {rz : Option Value} {hz : qa_M} (x2 : Int32) (x3 : Int32) (x4 : Int32) (x5 : Int32) (x6 : Int32) (h : qa_M) {z : qa_M} (E : f_X10_goOn_b17_loop x2 x3 x4 x5 x6 h = some z) (G : (qg_v rz hz) z) : qt_At l g (yX10_goOn, cX10_goOn, 8, none) (d + 1) 0 0 17 [(0, .ref (g.1 + 48)), (1, .ref (g.1 + 4)), (2, .int x2), (3, .int x3), (4, .int x4), (5, .int x5), (6, .int x6)] [] h rz hz :=
  qlp_ind (fun sz : Int32 × Int32 × Int32 × Int32 × Int32 × qa_M => qt_At l g (yX10_goOn, cX10_goOn, 8, none) (d + 1) 0 0 17 [(0, .ref (g.1 + 48)), (1, .ref (g.1 + 4)), (2, .int sz.1), (3, .int sz.2.1), (4, .int sz.2.2.1), (5, .int sz.2.2.2.1), (6, .int sz.2.2.2.2.1)] [] sz.2.2.2.2.2 rz hz) (fun sz E => s_X10_goOn_b17 sz.1 sz.2.1 sz.2.2.1 sz.2.2.2.1 sz.2.2.2.2.1 sz.2.2.2.2.2 E G) (fun sz sz2 E ih => s_X10_goOn_b17 sz.1 sz.2.1 sz.2.2.1 sz.2.2.2.1 sz.2.2.2.2.1 sz.2.2.2.2.2 E ih) (x2, x3, x4, x5, x6, h) E
noncomputable def m_X10_goOn (x2 : Int32) (x3 : Int32) (x4 : Int32) (h : qa_M) : Option qa_M :=
  qck ((x3 * (8 : Int32)) + x4) 2048 (
  qbd (h.1 50 ((x3 * (8 : Int32)) + x4).toNatClampNeg) (fun v12 : Int32 =>
  qbd (0 : Int32) (fun v15 : Int32 =>
  f_X10_goOn_b17_loop x2 x3 x4 v12 v15 h)))
set_option maxRecDepth 20000 in
theorem c_X10_goOn {l : Launch} {g : qa_G} {d : Nat} (x2 : Int32) (x3 : Int32) (x4 : Int32) (h : qa_M) {h1 : qa_M} (E : m_X10_goOn x2 x3 x4 h = some h1) : qt_Met l g (yX10_goOn, cX10_goOn, 8, none) (d + 1) 0 [.ref (g.1 + 48), .ref (g.1 + 4), .int x2, .int x3, .int x4] h none h1 := by
  refine qt_Met.of (plainFor_of_name (by decide)) (Nat.le_of_ble_eq_true rfl) ?_
  have G : qg_v none h1 (h1) := ⟨rfl, rfl⟩
  unfold m_X10_goOn at E
  refine qt_aload_n 0 dX10_goOn_0 rfl rfl ?_
  refine qt_getS 50 (wl_48 h) fe_RX10_15 rfl dX10_goOn_1 ?_
  refine qt_iload_n 3 dX10_goOn_4 rfl rfl ?_
  refine qt_bipush dX10_goOn_5 cb_8 ?_
  refine qt_imul dX10_goOn_7 ?_
  refine qt_iload 4 dX10_goOn_8 rfl ?_
  refine qt_iadd dX10_goOn_10 ?_
  refine qt_iald (wl_50 h) dX10_goOn_11 E (fun E => ?_)
  refine qt_istore (fun v12 => [(5, .int v12), (0, .ref (g.1 + 48)), (1, .ref (g.1 + 4)), (2, .int x2), (3, .int x3), (4, .int x4)]) dX10_goOn_12 (Nat.le_of_ble_eq_true rfl) (fun _ => rfl) E (fun v12 E => ?_)
  refine qt_iconst dX10_goOn_14 ci_0 ?_
  refine qt_istore (fun v15 => [(6, .int v15), (5, .int v12), (0, .ref (g.1 + 48)), (1, .ref (g.1 + 4)), (2, .int x2), (3, .int x3), (4, .int x4)]) dX10_goOn_15 (Nat.le_of_ble_eq_true rfl) (fun _ => rfl) E (fun v15 E => ?_)
  exact qt_sub _ [2, 3, 4, 5, 6, 1, 0] rfl ((s_X10_goOn_b17_loop x2 x3 x4 v12 v15 h E G))
noncomputable def f_X10_fewestSteps_b142 (x5 : Int32) (h : qa_M) : Option (Int32 × qa_M) :=
  if x5 < (1000000 : Int32) then (
   some (x5, h))
  else (
   some ((-2 : Int32), h))
set_option maxRecDepth 20000 in
theorem s_X10_fewestSteps_b142 {l : Launch} {g : qa_G} {d : Nat} {rz : Option Value} {hz : qa_M} (x5 : Int32) (h : qa_M) {z : (Int32 × qa_M)} (E : f_X10_fewestSteps_b142 x5 h = some z) (G : (qg_i rz hz) z) : qt_At l g (yX10_fewestSteps, cX10_fewestSteps, 7, (some .int)) (d + 2) 0 0 142 [(5, .int x5)] [] h rz hz := by
  unfold f_X10_fewestSteps_b142 at E
  refine qt_iload 0 dX10_fewestSteps_142 rfl ?_
  refine qt_ldc tb_1287 dX10_fewestSteps_144 ?_
  refine qt_icmp_lt 154 dX10_fewestSteps_146 (by decide) E (fun E => ?_) (fun E => ?_)
  · refine qt_iload 0 dX10_fewestSteps_154 rfl ?_
    exact qt_ireturn rfl (Nat.le_of_ble_eq_true rfl) dX10_fewestSteps_156 E G
  · refine qt_bipush dX10_fewestSteps_149 cb_m2 ?_
    refine qt_goto 156 dX10_fewestSteps_151 (by decide) ?_
    exact qt_ireturn rfl (Nat.le_of_ble_eq_true rfl) dX10_fewestSteps_156 E G
noncomputable def f_X10_fewestSteps_b107 (x4 : Int32) (x5 : Int32) (x6 : Int32) (h : qa_M) : Option ((Int32 × Int32 × Int32 × qa_M) ⊕ (Int32 × qa_M)) :=
  if (h.1 4 2) ≤ x6 then (
   qup (f_X10_fewestSteps_b142 x5 h))
  else (
   qck ((x4 * (8 : Int32)) + x6) 2048 (
   qbd (q_min x5 (h.1 50 ((x4 * (8 : Int32)) + x6).toNatClampNeg)) (fun v134 : Int32 =>
   qbd (x6 + (1 : Int32)) (fun v136 : Int32 =>
   some (.inl (x4, v134, v136, h))))))
set_option maxRecDepth 20000 in
theorem s_X10_fewestSteps_b107 {l : Launch} {g : qa_G} {d : Nat} {rz : Option Value} {hz : qa_M} (x4 : Int32) (x5 : Int32) (x6 : Int32) (h : qa_M) {z : ((Int32 × Int32 × Int32 × qa_M) ⊕ (Int32 × qa_M))} (E : f_X10_fewestSteps_b107 x4 x5 x6 h = some z) (G : (Sum.elim (fun (sz : Int32 × Int32 × Int32 × qa_M) => qt_At l g (yX10_fewestSteps, cX10_fewestSteps, 7, (some .int)) (d + 2) 0 0 107 [(0, .ref (g.1 + 48)), (1, .ref (g.1 + 4)), (4, .int sz.1), (5, .int sz.2.1), (6, .int sz.2.2.1)] [] sz.2.2.2 rz hz) (qg_i rz hz)) z) : qt_At l g (yX10_fewestSteps, cX10_fewestSteps, 7, (some .int)) (d + 2) 0 0 107 [(0, .ref (g.1 + 48)), (1, .ref (g.1 + 4)), (4, .int x4), (5, .int x5), (6, .int x6)] [] h rz hz := by
  unfold f_X10_fewestSteps_b107 at E
  refine qt_iload 4 dX10_fewestSteps_107 rfl ?_
  refine qt_aload_n 1 dX10_fewestSteps_109 rfl rfl ?_
  refine qt_getI (wl_4 h) fe_RX10_18 rfl dX10_fewestSteps_110 ?_
  refine qt_icmp_ge 142 dX10_fewestSteps_113 (by decide) E (fun E => ?_) (fun E => ?_)
  · obtain ⟨z0_, E, G⟩ := qup_g E G
    exact qt_sub _ [3] rfl ((s_X10_fewestSteps_b142 x5 h E G))
  · refine qt_iload 3 dX10_fewestSteps_116 rfl ?_
    refine qt_aload_n 0 dX10_fewestSteps_118 rfl rfl ?_
    refine qt_getS 50 (wl_48 h) fe_RX10_15 rfl dX10_fewestSteps_119 ?_
    refine qt_iload 2 dX10_fewestSteps_122 rfl ?_
    refine qt_bipush dX10_fewestSteps_124 cb_8 ?_
    refine qt_imul dX10_fewestSteps_126 ?_
    refine qt_iload 4 dX10_fewestSteps_127 rfl ?_
    refine qt_iadd dX10_fewestSteps_129 ?_
    refine qt_iald (wl_50 h) dX10_fewestSteps_130 E (fun E => ?_)
    refine qt_mmin tb_1295 dX10_fewestSteps_131 (Nat.le_of_ble_eq_true rfl) ?_
    refine qt_istore (fun v134 => [(5, .int v134), (0, .ref (g.1 + 48)), (1, .ref (g.1 + 4)), (4, .int x4), (6, .int x6)]) dX10_fewestSteps_134 (Nat.le_of_ble_eq_true rfl) (fun _ => rfl) E (fun v134 E => ?_)
    refine qt_iinc 4 (fun v136 => [(6, .int v136), (5, .int v134), (0, .ref (g.1 + 48)), (1, .ref (g.1 + 4)), (4, .int x4)]) dX10_fewestSteps_136 rfl ci_1 (Nat.le_of_ble_eq_true rfl) (fun _ => rfl) E (fun v136 E => ?_)
    refine qt_goto 107 dX10_fewestSteps_139 (by decide) ?_
    cases E
    exact qt_sub _ [2, 3, 4, 1, 0] rfl (G)
noncomputable def f_X10_fewestSteps_b107_loop (x4 : Int32) (x5 : Int32) (x6 : Int32) (h : qa_M) : Option (Int32 × qa_M) := qlp (fun sz : Int32 × Int32 × Int32 × qa_M => f_X10_fewestSteps_b107 sz.1 sz.2.1 sz.2.2.1 sz.2.2.2) (x4, x5, x6, h)
theorem s_X10_fewestSteps_b107_loop {l : Launch} {g : qa_G} {d : Nat} {rz : Option Value} {hz : qa_M} (x4 : Int32) (x5 : Int32) (x6 : Int32) (h : qa_M) {z : (Int32 × qa_M)} (E : f_X10_fewestSteps_b107_loop x4 x5 x6 h = some z) (G : (qg_i rz hz) z) : qt_At l g (yX10_fewestSteps, cX10_fewestSteps, 7, (some .int)) (d + 2) 0 0 107 [(0, .ref (g.1 + 48)), (1, .ref (g.1 + 4)), (4, .int x4), (5, .int x5), (6, .int x6)] [] h rz hz :=
  qlp_ind (fun sz : Int32 × Int32 × Int32 × qa_M => qt_At l g (yX10_fewestSteps, cX10_fewestSteps, 7, (some .int)) (d + 2) 0 0 107 [(0, .ref (g.1 + 48)), (1, .ref (g.1 + 4)), (4, .int sz.1), (5, .int sz.2.1), (6, .int sz.2.2.1)] [] sz.2.2.2 rz hz) (fun sz E => s_X10_fewestSteps_b107 sz.1 sz.2.1 sz.2.2.1 sz.2.2.2 E G) (fun sz sz2 E ih => s_X10_fewestSteps_b107 sz.1 sz.2.1 sz.2.2.1 sz.2.2.2 E ih) (x4, x5, x6, h) E
noncomputable def f_X10_fewestSteps_b100 (x4 : Int32) (h : qa_M) : Option (Int32 × qa_M) :=
  qbd (1000000 : Int32) (fun v102 : Int32 =>
  qbd (0 : Int32) (fun v105 : Int32 =>
  f_X10_fewestSteps_b107_loop x4 v102 v105 h))
set_option maxRecDepth 20000 in
theorem s_X10_fewestSteps_b100 {l : Launch} {g : qa_G} {d : Nat} {rz : Option Value} {hz : qa_M} (x4 : Int32) (h : qa_M) {z : (Int32 × qa_M)} (E : f_X10_fewestSteps_b100 x4 h = some z) (G : (qg_i rz hz) z) : qt_At l g (yX10_fewestSteps, cX10_fewestSteps, 7, (some .int)) (d + 2) 0 0 100 [(0, .ref (g.1 + 48)), (1, .ref (g.1 + 4)), (4, .int x4)] [] h rz hz := by
  unfold f_X10_fewestSteps_b100 at E
  refine qt_ldc tb_1287 dX10_fewestSteps_100 ?_
  refine qt_istore (fun v102 => [(5, .int v102), (0, .ref (g.1 + 48)), (1, .ref (g.1 + 4)), (4, .int x4)]) dX10_fewestSteps_102 (Nat.le_of_ble_eq_true rfl) (fun _ => rfl) E (fun v102 E => ?_)
  refine qt_iconst dX10_fewestSteps_104 ci_0 ?_
  refine qt_istore (fun v105 => [(6, .int v105), (5, .int v102), (0, .ref (g.1 + 48)), (1, .ref (g.1 + 4)), (4, .int x4)]) dX10_fewestSteps_105 (Nat.le_of_ble_eq_true rfl) (fun _ => rfl) E (fun v105 E => ?_)
  exact qt_sub _ [2, 3, 4, 1, 0] rfl ((s_X10_fewestSteps_b107_loop x4 v102 v105 h E G))
noncomputable def f_X10_fewestSteps_b94 (x4 : Int32) (x5 : Int32) (h : qa_M) : Option ((Int32 × Int32 × qa_M) ⊕ (Int32 × qa_M)) :=
  qbd (x5 + (1 : Int32)) (fun v94 : Int32 =>
  some (.inl (x4, v94, h)))
set_option maxRecDepth 20000 in
theorem s_X10_fewestSteps_b94 {l : Launch} {g : qa_G} {d : Nat} {rz : Option Value} {hz : qa_M} (x4 : Int32) (x5 : Int32) (h : qa_M) {z : ((Int32 × Int32 × qa_M) ⊕ (Int32 × qa_M))} (E : f_X10_fewestSteps_b94 x4 x5 h = some z) (G : (Sum.elim (fun (sz : Int32 × Int32 × qa_M) => qt_At l g (yX10_fewestSteps, cX10_fewestSteps, 7, (some .int)) (d + 2) 0 0 58 [(0, .ref (g.1 + 48)), (1, .ref (g.1 + 4)), (4, .int sz.1), (5, .int sz.2.1)] [] sz.2.2 rz hz) (qg_i rz hz)) z) : qt_At l g (yX10_fewestSteps, cX10_fewestSteps, 7, (some .int)) (d + 2) 0 0 94 [(0, .ref (g.1 + 48)), (1, .ref (g.1 + 4)), (4, .int x4), (5, .int x5)] [] h rz hz := by
  unfold f_X10_fewestSteps_b94 at E
  refine qt_iinc 3 (fun v94 => [(5, .int v94), (0, .ref (g.1 + 48)), (1, .ref (g.1 + 4)), (4, .int x4)]) dX10_fewestSteps_94 rfl ci_1 (Nat.le_of_ble_eq_true rfl) (fun _ => rfl) E (fun v94 E => ?_)
  refine qt_goto 58 dX10_fewestSteps_97 (by decide) ?_
  cases E
  exact qt_sub _ [1, 2, 3, 0] rfl (G)
noncomputable def f_X10_fewestSteps_b68 (x4 : Int32) (x5 : Int32) (x6 : Int32) (h : qa_M) : Option ((Int32 × Int32 × Int32 × qa_M) ⊕ ((Int32 × Int32 × qa_M) ⊕ (Int32 × qa_M))) :=
  if (h.1 4 2) ≤ x6 then (
   qup (f_X10_fewestSteps_b94 x4 x5 h))
  else (
   qbv (m_X10_goOn x4 x5 x6 h) (fun h85 : qa_M =>
   qbd (x6 + (1 : Int32)) (fun v88 : Int32 =>
   some (.inl (x4, x5, v88, h85)))))
set_option maxRecDepth 20000 in
theorem s_X10_fewestSteps_b68 {l : Launch} {g : qa_G} {d : Nat} {rz : Option Value} {hz : qa_M} (x4 : Int32) (x5 : Int32) (x6 : Int32) (h : qa_M) {z : ((Int32 × Int32 × Int32 × qa_M) ⊕ ((Int32 × Int32 × qa_M) ⊕ (Int32 × qa_M)))} (E : f_X10_fewestSteps_b68 x4 x5 x6 h = some z) (G : (Sum.elim (fun (sz : Int32 × Int32 × Int32 × qa_M) => qt_At l g (yX10_fewestSteps, cX10_fewestSteps, 7, (some .int)) (d + 2) 0 0 68 [(0, .ref (g.1 + 48)), (1, .ref (g.1 + 4)), (4, .int sz.1), (5, .int sz.2.1), (6, .int sz.2.2.1)] [] sz.2.2.2 rz hz) (Sum.elim (fun (sz : Int32 × Int32 × qa_M) => qt_At l g (yX10_fewestSteps, cX10_fewestSteps, 7, (some .int)) (d + 2) 0 0 58 [(0, .ref (g.1 + 48)), (1, .ref (g.1 + 4)), (4, .int sz.1), (5, .int sz.2.1)] [] sz.2.2 rz hz) (qg_i rz hz))) z) : qt_At l g (yX10_fewestSteps, cX10_fewestSteps, 7, (some .int)) (d + 2) 0 0 68 [(0, .ref (g.1 + 48)), (1, .ref (g.1 + 4)), (4, .int x4), (5, .int x5), (6, .int x6)] [] h rz hz := by
  unfold f_X10_fewestSteps_b68 at E
  refine qt_iload 4 dX10_fewestSteps_68 rfl ?_
  refine qt_aload_n 1 dX10_fewestSteps_70 rfl rfl ?_
  refine qt_getI (wl_4 h) fe_RX10_18 rfl dX10_fewestSteps_71 ?_
  refine qt_icmp_ge 94 dX10_fewestSteps_74 (by decide) E (fun E => ?_) (fun E => ?_)
  · obtain ⟨z0_, E, G⟩ := qup_g E G
    exact qt_sub _ [0, 1, 2, 3] rfl ((s_X10_fewestSteps_b94 x4 x5 h E G))
  · refine qt_aload_n 0 dX10_fewestSteps_77 rfl rfl ?_
    refine qt_aload_n 1 dX10_fewestSteps_78 rfl rfl ?_
    refine qt_iload 2 dX10_fewestSteps_79 rfl ?_
    refine qt_iload 3 dX10_fewestSteps_81 rfl ?_
    refine qt_iload 4 dX10_fewestSteps_83 rfl ?_
    obtain ⟨h85, e85, E⟩ := qbv_el E
    refine qt_callVv (b2 := 0) [.ref (g.1 + 4), .int x4, .int x5, .int x6] (c_X10_goOn x4 x5 x6 h e85) cv_RX10_35 (wl_48 h) rfl rfl rfl (Nat.le_of_ble_eq_true rfl) (Nat.le_of_ble_eq_true rfl) dX10_fewestSteps_85 ?_
    refine qt_iinc 4 (fun v88 => [(6, .int v88), (0, .ref (g.1 + 48)), (1, .ref (g.1 + 4)), (4, .int x4), (5, .int x5)]) dX10_fewestSteps_88 rfl ci_1 (Nat.le_of_ble_eq_true rfl) (fun _ => rfl) E (fun v88 E => ?_)
    refine qt_goto 68 dX10_fewestSteps_91 (by decide) ?_
    cases E
    exact qt_sub _ [1, 2, 3, 4, 0] rfl (G)
noncomputable def f_X10_fewestSteps_b68_loop (x4 : Int32) (x5 : Int32) (x6 : Int32) (h : qa_M) : Option ((Int32 × Int32 × qa_M) ⊕ (Int32 × qa_M)) := qlp (fun sz : Int32 × Int32 × Int32 × qa_M => f_X10_fewestSteps_b68 sz.1 sz.2.1 sz.2.2.1 sz.2.2.2) (x4, x5, x6, h)
theorem s_X10_fewestSteps_b68_loop {l : Launch} {g : qa_G} {d : Nat} {rz : Option Value} {hz : qa_M} (x4 : Int32) (x5 : Int32) (x6 : Int32) (h : qa_M) {z : ((Int32 × Int32 × qa_M) ⊕ (Int32 × qa_M))} (E : f_X10_fewestSteps_b68_loop x4 x5 x6 h = some z) (G : (Sum.elim (fun (sz : Int32 × Int32 × qa_M) => qt_At l g (yX10_fewestSteps, cX10_fewestSteps, 7, (some .int)) (d + 2) 0 0 58 [(0, .ref (g.1 + 48)), (1, .ref (g.1 + 4)), (4, .int sz.1), (5, .int sz.2.1)] [] sz.2.2 rz hz) (qg_i rz hz)) z) : qt_At l g (yX10_fewestSteps, cX10_fewestSteps, 7, (some .int)) (d + 2) 0 0 68 [(0, .ref (g.1 + 48)), (1, .ref (g.1 + 4)), (4, .int x4), (5, .int x5), (6, .int x6)] [] h rz hz :=
  qlp_ind (fun sz : Int32 × Int32 × Int32 × qa_M => qt_At l g (yX10_fewestSteps, cX10_fewestSteps, 7, (some .int)) (d + 2) 0 0 68 [(0, .ref (g.1 + 48)), (1, .ref (g.1 + 4)), (4, .int sz.1), (5, .int sz.2.1), (6, .int sz.2.2.1)] [] sz.2.2.2 rz hz) (fun sz E => s_X10_fewestSteps_b68 sz.1 sz.2.1 sz.2.2.1 sz.2.2.2 E G) (fun sz sz2 E ih => s_X10_fewestSteps_b68 sz.1 sz.2.1 sz.2.2.1 sz.2.2.2 E ih) (x4, x5, x6, h) E
noncomputable def f_X10_fewestSteps_b58 (x4 : Int32) (x5 : Int32) (h : qa_M) : Option ((Int32 × Int32 × qa_M) ⊕ (Int32 × qa_M)) :=
  if x4 < x5 then (
   qup (f_X10_fewestSteps_b100 x4 h))
  else (
   qbd (0 : Int32) (fun v66 : Int32 =>
   f_X10_fewestSteps_b68_loop x4 x5 v66 h))
set_option maxRecDepth 20000 in
theorem s_X10_fewestSteps_b58 {l : Launch} {g : qa_G} {d : Nat} {rz : Option Value} {hz : qa_M} (x4 : Int32) (x5 : Int32) (h : qa_M) {z : ((Int32 × Int32 × qa_M) ⊕ (Int32 × qa_M))} (E : f_X10_fewestSteps_b58 x4 x5 h = some z) (G : (Sum.elim (fun (sz : Int32 × Int32 × qa_M) => qt_At l g (yX10_fewestSteps, cX10_fewestSteps, 7, (some .int)) (d + 2) 0 0 58 [(0, .ref (g.1 + 48)), (1, .ref (g.1 + 4)), (4, .int sz.1), (5, .int sz.2.1)] [] sz.2.2 rz hz) (qg_i rz hz)) z) : qt_At l g (yX10_fewestSteps, cX10_fewestSteps, 7, (some .int)) (d + 2) 0 0 58 [(0, .ref (g.1 + 48)), (1, .ref (g.1 + 4)), (4, .int x4), (5, .int x5)] [] h rz hz := by
  unfold f_X10_fewestSteps_b58 at E
  refine qt_iload 3 dX10_fewestSteps_58 rfl ?_
  refine qt_iload 2 dX10_fewestSteps_60 rfl ?_
  refine qt_icmp_gt 100 dX10_fewestSteps_62 (by decide) E (fun E => ?_) (fun E => ?_)
  · obtain ⟨z0_, E, G⟩ := qup_g E G
    exact qt_sub _ [0, 1, 2] rfl ((s_X10_fewestSteps_b100 x4 h E G))
  · refine qt_iconst dX10_fewestSteps_65 ci_0 ?_
    refine qt_istore (fun v66 => [(6, .int v66), (0, .ref (g.1 + 48)), (1, .ref (g.1 + 4)), (4, .int x4), (5, .int x5)]) dX10_fewestSteps_66 (Nat.le_of_ble_eq_true rfl) (fun _ => rfl) E (fun v66 E => ?_)
    exact qt_sub _ [1, 2, 3, 4, 0] rfl ((s_X10_fewestSteps_b68_loop x4 x5 v66 h E G))
noncomputable def f_X10_fewestSteps_b58_loop (x4 : Int32) (x5 : Int32) (h : qa_M) : Option (Int32 × qa_M) := qlp (fun sz : Int32 × Int32 × qa_M => f_X10_fewestSteps_b58 sz.1 sz.2.1 sz.2.2) (x4, x5, h)
theorem s_X10_fewestSteps_b58_loop {l : Launch} {g : qa_G} {d : Nat} {rz : Option Value} {hz : qa_M} (x4 : Int32) (x5 : Int32) (h : qa_M) {z : (Int32 × qa_M)} (E : f_X10_fewestSteps_b58_loop x4 x5 h = some z) (G : (qg_i rz hz) z) : qt_At l g (yX10_fewestSteps, cX10_fewestSteps, 7, (some .int)) (d + 2) 0 0 58 [(0, .ref (g.1 + 48)), (1, .ref (g.1 + 4)), (4, .int x4), (5, .int x5)] [] h rz hz :=
  qlp_ind (fun sz : Int32 × Int32 × qa_M => qt_At l g (yX10_fewestSteps, cX10_fewestSteps, 7, (some .int)) (d + 2) 0 0 58 [(0, .ref (g.1 + 48)), (1, .ref (g.1 + 4)), (4, .int sz.1), (5, .int sz.2.1)] [] sz.2.2 rz hz) (fun sz E => s_X10_fewestSteps_b58 sz.1 sz.2.1 sz.2.2 E G) (fun sz sz2 E ih => s_X10_fewestSteps_b58 sz.1 sz.2.1 sz.2.2 E ih) (x4, x5, h) E
noncomputable def f_X10_fewestSteps_b32 (x2 : Int32) (x4 : Int32) (h : qa_M) : Option (Int32 × qa_M) :=
  qbv (m_J7_fill_53178 50 (1000000 : Int32) h) (fun h38 : qa_M =>
  qck ((((1 : Int32) <<< (x2 &&& 31)) * (8 : Int32)) + x2) 2048 (
  qbd (qw_I h38 50 ((((1 : Int32) <<< (x2 &&& 31)) * (8 : Int32)) + x2).toNatClampNeg (0 : Int32)) (fun h54 : qa_M =>
  qbd (0 : Int32) (fun v56 : Int32 =>
  f_X10_fewestSteps_b58_loop x4 v56 h54))))
set_option maxRecDepth 20000 in
theorem s_X10_fewestSteps_b32 {l : Launch} {g : qa_G} {d : Nat} {rz : Option Value} {hz : qa_M} (x2 : Int32) (x4 : Int32) (h : qa_M) {z : (Int32 × qa_M)} (E : f_X10_fewestSteps_b32 x2 x4 h = some z) (G : (qg_i rz hz) z) : qt_At l g (yX10_fewestSteps, cX10_fewestSteps, 7, (some .int)) (d + 2) 0 0 32 [(0, .ref (g.1 + 48)), (1, .ref (g.1 + 4)), (2, .int x2), (4, .int x4)] [] h rz hz := by
  unfold f_X10_fewestSteps_b32 at E
  refine qt_aload_n 0 dX10_fewestSteps_32 rfl rfl ?_
  refine qt_getS 50 (wl_48 h) fe_RX10_15 rfl dX10_fewestSteps_33 ?_
  refine qt_ldc tb_1287 dX10_fewestSteps_36 ?_
  obtain ⟨h38, e38, E⟩ := qbv_el E
  refine qt_callSv (b2 := 0) [.ref (g.1 + 50), .int (1000000 : Int32)] (c_J7_fill_53178 50 (1000000 : Int32) h e38) cv_RX10_29 rfl (Nat.le_of_ble_eq_true rfl) (Nat.le_of_ble_eq_true rfl) dX10_fewestSteps_38 ?_
  refine qt_aload_n 0 dX10_fewestSteps_41 rfl rfl ?_
  refine qt_getS 50 (wl_48 h38) fe_RX10_15 rfl dX10_fewestSteps_42 ?_
  refine qt_iconst dX10_fewestSteps_45 ci_1 ?_
  refine qt_iload_n 2 dX10_fewestSteps_46 rfl rfl ?_
  refine qt_ishl dX10_fewestSteps_47 ?_
  refine qt_bipush dX10_fewestSteps_48 cb_8 ?_
  refine qt_imul dX10_fewestSteps_50 ?_
  refine qt_iload_n 2 dX10_fewestSteps_51 rfl rfl ?_
  refine qt_iadd dX10_fewestSteps_52 ?_
  refine qt_iconst dX10_fewestSteps_53 ci_0 ?_
  refine qt_iast (wl_50 h38) dX10_fewestSteps_54 E (fun h54 E => ?_)
  refine qt_iconst dX10_fewestSteps_55 ci_0 ?_
  refine qt_istore (fun v56 => [(5, .int v56), (0, .ref (g.1 + 48)), (1, .ref (g.1 + 4)), (2, .int x2), (4, .int x4)]) dX10_fewestSteps_56 (Nat.le_of_ble_eq_true rfl) (fun _ => rfl) E (fun v56 E => ?_)
  exact qt_sub _ [1, 2, 4, 0] rfl ((s_X10_fewestSteps_b58_loop x4 v56 h54 E G))
noncomputable def f_X10_fewestSteps_b10 (x2 : Int32) (x4 : Int32) (x5 : Int32) (h : qa_M) : Option ((Int32 × Int32 × Int32 × qa_M) ⊕ (Int32 × qa_M)) :=
  if (h.1 4 2) ≤ x5 then (
   qup (f_X10_fewestSteps_b32 x2 x4 h))
  else (
   qbv (m_X10_spread x5 h) (fun h23 : qa_M =>
   qbd (x5 + (1 : Int32)) (fun v26 : Int32 =>
   some (.inl (x2, x4, v26, h23)))))
set_option maxRecDepth 20000 in
theorem s_X10_fewestSteps_b10 {l : Launch} {g : qa_G} {d : Nat} {rz : Option Value} {hz : qa_M} (x2 : Int32) (x4 : Int32) (x5 : Int32) (h : qa_M) {z : ((Int32 × Int32 × Int32 × qa_M) ⊕ (Int32 × qa_M))} (E : f_X10_fewestSteps_b10 x2 x4 x5 h = some z) (G : (Sum.elim (fun (sz : Int32 × Int32 × Int32 × qa_M) => qt_At l g (yX10_fewestSteps, cX10_fewestSteps, 7, (some .int)) (d + 2) 0 0 10 [(0, .ref (g.1 + 48)), (1, .ref (g.1 + 4)), (2, .int sz.1), (4, .int sz.2.1), (5, .int sz.2.2.1)] [] sz.2.2.2 rz hz) (qg_i rz hz)) z) : qt_At l g (yX10_fewestSteps, cX10_fewestSteps, 7, (some .int)) (d + 2) 0 0 10 [(0, .ref (g.1 + 48)), (1, .ref (g.1 + 4)), (2, .int x2), (4, .int x4), (5, .int x5)] [] h rz hz := by
  unfold f_X10_fewestSteps_b10 at E
  refine qt_iload 4 dX10_fewestSteps_10 rfl ?_
  refine qt_aload_n 1 dX10_fewestSteps_12 rfl rfl ?_
  refine qt_getI (wl_4 h) fe_RX10_18 rfl dX10_fewestSteps_13 ?_
  refine qt_icmp_ge 32 dX10_fewestSteps_16 (by decide) E (fun E => ?_) (fun E => ?_)
  · obtain ⟨z0_, E, G⟩ := qup_g E G
    exact qt_sub _ [0, 1, 2, 3] rfl ((s_X10_fewestSteps_b32 x2 x4 h E G))
  · refine qt_aload_n 0 dX10_fewestSteps_19 rfl rfl ?_
    refine qt_aload_n 1 dX10_fewestSteps_20 rfl rfl ?_
    refine qt_iload 4 dX10_fewestSteps_21 rfl ?_
    obtain ⟨h23, e23, E⟩ := qbv_el E
    refine qt_callVv (b2 := 0) [.ref (g.1 + 4), .int x5] (c_X10_spread x5 h e23) cv_RX10_24 (wl_48 h) rfl rfl rfl (Nat.le_of_ble_eq_true rfl) (Nat.le_of_ble_eq_true rfl) dX10_fewestSteps_23 ?_
    refine qt_iinc 4 (fun v26 => [(5, .int v26), (0, .ref (g.1 + 48)), (1, .ref (g.1 + 4)), (2, .int x2), (4, .int x4)]) dX10_fewestSteps_26 rfl ci_1 (Nat.le_of_ble_eq_true rfl) (fun _ => rfl) E (fun v26 E => ?_)
    refine qt_goto 10 dX10_fewestSteps_29 (by decide) ?_
    cases E
    exact qt_sub _ [1, 2, 3, 4, 0] rfl (G)
noncomputable def f_X10_fewestSteps_b10_loop (x2 : Int32) (x4 : Int32) (x5 : Int32) (h : qa_M) : Option (Int32 × qa_M) := qlp (fun sz : Int32 × Int32 × Int32 × qa_M => f_X10_fewestSteps_b10 sz.1 sz.2.1 sz.2.2.1 sz.2.2.2) (x2, x4, x5, h)
theorem s_X10_fewestSteps_b10_loop {l : Launch} {g : qa_G} {d : Nat} {rz : Option Value} {hz : qa_M} (x2 : Int32) (x4 : Int32) (x5 : Int32) (h : qa_M) {z : (Int32 × qa_M)} (E : f_X10_fewestSteps_b10_loop x2 x4 x5 h = some z) (G : (qg_i rz hz) z) : qt_At l g (yX10_fewestSteps, cX10_fewestSteps, 7, (some .int)) (d + 2) 0 0 10 [(0, .ref (g.1 + 48)), (1, .ref (g.1 + 4)), (2, .int x2), (4, .int x4), (5, .int x5)] [] h rz hz :=
  qlp_ind (fun sz : Int32 × Int32 × Int32 × qa_M => qt_At l g (yX10_fewestSteps, cX10_fewestSteps, 7, (some .int)) (d + 2) 0 0 10 [(0, .ref (g.1 + 48)), (1, .ref (g.1 + 4)), (2, .int sz.1), (4, .int sz.2.1), (5, .int sz.2.2.1)] [] sz.2.2.2 rz hz) (fun sz E => s_X10_fewestSteps_b10 sz.1 sz.2.1 sz.2.2.1 sz.2.2.2 E G) (fun sz sz2 E ih => s_X10_fewestSteps_b10 sz.1 sz.2.1 sz.2.2.1 sz.2.2.2 E ih) (x2, x4, x5, h) E
noncomputable def m_X10_fewestSteps (x2 : Int32) (x3 : Int32) (h : qa_M) : Option (Int32 × qa_M) :=
  qbd (x3 ||| ((1 : Int32) <<< (x2 &&& 31))) (fun v5 : Int32 =>
  qbd (0 : Int32) (fun v8 : Int32 =>
  f_X10_fewestSteps_b10_loop x2 v5 v8 h))
set_option maxRecDepth 20000 in
theorem c_X10_fewestSteps {l : Launch} {g : qa_G} {d : Nat} (x2 : Int32) (x3 : Int32) (h : qa_M) {c : Int32} {h1 : qa_M} (E : m_X10_fewestSteps x2 x3 h = some (c, h1)) : qt_Met l g (yX10_fewestSteps, cX10_fewestSteps, 7, (some .int)) (d + 2) 0 [.ref (g.1 + 48), .ref (g.1 + 4), .int x2, .int x3] h (some (.int c)) h1 := by
  refine qt_Met.of (plainFor_of_name (by decide)) (Nat.le_of_ble_eq_true rfl) ?_
  have G : qg_i (some (.int c)) h1 ((c, h1)) := ⟨rfl, rfl⟩
  unfold m_X10_fewestSteps at E
  refine qt_iload_n 3 dX10_fewestSteps_0 rfl rfl ?_
  refine qt_iconst dX10_fewestSteps_1 ci_1 ?_
  refine qt_iload_n 2 dX10_fewestSteps_2 rfl rfl ?_
  refine qt_ishl dX10_fewestSteps_3 ?_
  refine qt_ior dX10_fewestSteps_4 ?_
  refine qt_istore (fun v5 => [(4, .int v5), (0, .ref (g.1 + 48)), (1, .ref (g.1 + 4)), (2, .int x2), (3, .int x3)]) dX10_fewestSteps_5 (Nat.le_of_ble_eq_true rfl) (fun _ => rfl) E (fun v5 E => ?_)
  refine qt_iconst dX10_fewestSteps_7 ci_0 ?_
  refine qt_istore (fun v8 => [(5, .int v8), (4, .int v5), (0, .ref (g.1 + 48)), (1, .ref (g.1 + 4)), (2, .int x2), (3, .int x3)]) dX10_fewestSteps_8 (Nat.le_of_ble_eq_true rfl) (fun _ => rfl) E (fun v8 E => ?_)
  exact qt_sub _ [2, 3, 4, 1, 0] rfl ((s_X10_fewestSteps_b10_loop x2 v5 v8 h E G))
noncomputable def m_X11_walk (x1 : Int32) (x2 : Int32) (h : qa_M) : Option (Int32 × qa_M) :=
  qbn (m_X11_within x1 (h.1 4 2) h) (fun (c13 : Int32) (h13 : qa_M) =>
  if c13 = 0 then (
   some ((-1 : Int32), h13))
  else (
   qbn (m_X11_within x2 ((1 : Int32) <<< ((h13.1 4 2) &&& 31)) h13) (fun (c26 : Int32) (h26 : qa_M) =>
   if c26 = 0 then (
    some ((-1 : Int32), h26))
   else (
    qbn (m_X10_fewestSteps x1 x2 h26) (fun (c41 : Int32) (h41 : qa_M) =>
    some (c41, h41))))))
set_option maxRecDepth 20000 in
theorem c_X11_walk {l : Launch} {g : qa_G} {d : Nat} (x1 : Int32) (x2 : Int32) (h : qa_M) {c : Int32} {h1 : qa_M} (E : m_X11_walk x1 x2 h = some (c, h1)) : qt_Met l g (yX11_walk, cX11_walk, 4, (some .int)) (d + 3) 0 [.ref (g.1 + 0), .int x1, .int x2] h (some (.int c)) h1 := by
  refine qt_Met.of (plainFor_of_name (by decide)) (Nat.le_of_ble_eq_true rfl) ?_
  have G : qg_i (some (.int c)) h1 ((c, h1)) := ⟨rfl, rfl⟩
  unfold m_X11_walk at E
  refine qt_aload_n 0 dX11_walk_0 rfl rfl ?_
  refine qt_getS 3 (wl_0 h) fe_RX11_19 rfl dX11_walk_1 ?_
  refine qt_getS 4 (wl_3 h) fe_RX11_108 rfl dX11_walk_4 ?_
  refine qt_astore_n [(3, .ref (g.1 + 4)), (0, .ref (g.1 + 0)), (1, .int x1), (2, .int x2)] dX11_walk_7 rfl (Nat.le_of_ble_eq_true rfl) rfl ?_
  refine qt_iload_n 2 dX11_walk_8 rfl rfl ?_
  refine qt_aload_n 0 dX11_walk_9 rfl rfl ?_
  refine qt_getI (wl_4 h) fe_RX11_118 rfl dX11_walk_10 ?_
  obtain ⟨c13, h13, e13, E⟩ := qbn_el E
  refine qt_callSi (b2 := 0) [.int x1, .int (h.1 4 2)] (c_X11_within x1 (h.1 4 2) h e13) cv_RX11_130 rfl (Nat.le_of_ble_eq_true rfl) (Nat.le_of_ble_eq_true rfl) dX11_walk_13 ?_
  refine qt_if_eq 32 dX11_walk_16 (by decide) E (fun E => ?_) (fun E => ?_)
  · refine qt_iconst dX11_walk_32 ci_m1 ?_
    exact qt_ireturn rfl (Nat.le_of_ble_eq_true rfl) dX11_walk_33 E G
  · refine qt_iload_n 3 dX11_walk_19 rfl rfl ?_
    refine qt_iconst dX11_walk_20 ci_1 ?_
    refine qt_aload_n 0 dX11_walk_21 rfl rfl ?_
    refine qt_getI (wl_4 h13) fe_RX11_118 rfl dX11_walk_22 ?_
    refine qt_ishl dX11_walk_25 ?_
    obtain ⟨c26, h26, e26, E⟩ := qbn_el E
    refine qt_callSi (b2 := 0) [.int x2, .int ((1 : Int32) <<< ((h13.1 4 2) &&& 31))] (c_X11_within x2 ((1 : Int32) <<< ((h13.1 4 2) &&& 31)) h13 e26) cv_RX11_130 rfl (Nat.le_of_ble_eq_true rfl) (Nat.le_of_ble_eq_true rfl) dX11_walk_26 ?_
    refine qt_if_ne 34 dX11_walk_29 (by decide) E (fun E => ?_) (fun E => ?_)
    · refine qt_aload_n 1 dX11_walk_34 rfl rfl ?_
      refine qt_getS 48 (wl_0 h26) fe_RX11_88 rfl dX11_walk_35 ?_
      refine qt_aload_n 0 dX11_walk_38 rfl rfl ?_
      refine qt_iload_n 2 dX11_walk_39 rfl rfl ?_
      refine qt_iload_n 3 dX11_walk_40 rfl rfl ?_
      obtain ⟨c41, h41, e41, E⟩ := qbn_el E
      refine qt_callVi (b2 := 0) [.ref (g.1 + 4), .int x1, .int x2] (c_X10_fewestSteps x1 x2 h26 e41) cv_RX11_267 (wl_48 h26) rfl rfl rfl (Nat.le_of_ble_eq_true rfl) (Nat.le_of_ble_eq_true rfl) dX11_walk_41 ?_
      exact qt_ireturn rfl (Nat.le_of_ble_eq_true rfl) dX11_walk_44 E G
    · refine qt_iconst dX11_walk_32 ci_m1 ?_
      exact qt_ireturn rfl (Nat.le_of_ble_eq_true rfl) dX11_walk_33 E G
noncomputable def m_X11_seed (x1 : Int32) (h : qa_M) : Option (Int32 × qa_M) :=
  if 0 ≤ x1 then (
   qbd (h.1 3 4) (fun v13 : Int32 =>
   qbd (qw_I h 3 4 x1) (fun h19 : qa_M =>
   some (v13, h19))))
  else (
   some ((-1 : Int32), h))
set_option maxRecDepth 20000 in
theorem c_X11_seed {l : Launch} {g : qa_G} {d : Nat} (x1 : Int32) (h : qa_M) {c : Int32} {h1 : qa_M} (E : m_X11_seed x1 h = some (c, h1)) : qt_Met l g (yX11_seed, cX11_seed, 3, (some .int)) d 0 [.ref (g.1 + 0), .int x1] h (some (.int c)) h1 := by
  refine qt_Met.of (plainFor_of_name (by decide)) (Nat.le_of_ble_eq_true rfl) ?_
  have G : qg_i (some (.int c)) h1 ((c, h1)) := ⟨rfl, rfl⟩
  unfold m_X11_seed at E
  refine qt_iload_n 1 dX11_seed_0 rfl rfl ?_
  refine qt_if_ge 6 dX11_seed_1 (by decide) E (fun E => ?_) (fun E => ?_)
  · refine qt_aload_n 0 dX11_seed_6 rfl rfl ?_
    refine qt_getS 3 (wl_0 h) fe_RX11_19 rfl dX11_seed_7 ?_
    refine qt_getI (wl_3 h) fe_RX11_271 rfl dX11_seed_10 ?_
    refine qt_istore_n (fun v13 => [(2, .int v13), (0, .ref (g.1 + 0)), (1, .int x1)]) dX11_seed_13 rfl (Nat.le_of_ble_eq_true rfl) (fun _ => rfl) E (fun v13 E => ?_)
    refine qt_aload_n 1 dX11_seed_14 rfl rfl ?_
    refine qt_getS 3 (wl_0 h) fe_RX11_19 rfl dX11_seed_15 ?_
    refine qt_iload_n 2 dX11_seed_18 rfl rfl ?_
    refine qt_putI (wl_3 h) fd_RX11_271 rfl rfl rfl dX11_seed_19 E (fun h19 E => ?_)
    refine qt_iload_n 0 dX11_seed_22 rfl rfl ?_
    exact qt_ireturn rfl (Nat.le_of_ble_eq_true rfl) dX11_seed_23 E G
  · refine qt_iconst dX11_seed_4 ci_m1 ?_
    exact qt_ireturn rfl (Nat.le_of_ble_eq_true rfl) dX11_seed_5 E G
noncomputable def m_X8_draw (h : qa_M) : Option (Int32 × qa_M) :=
  qbd (qw_I h 3 4 ((((((h.1 3 4).toInt64) * (1103515245 : Int64)) + (12345 : Int64)) - ((((h.1 3 4).toInt64) * (1103515245 : Int64)) + (12345 : Int64)) / (2147483648 : Int64) * (2147483648 : Int64)).toInt32)) (fun h19 : qa_M =>
  some (((h19.1 3 4) / (65536 : Int32)), h19))
set_option maxRecDepth 20000 in
theorem c_X8_draw {l : Launch} {g : qa_G} {d : Nat} (h : qa_M) {c : Int32} {h1 : qa_M} (E : m_X8_draw h = some (c, h1)) : qt_Met l g (yX8_draw, cX8_draw, 1, (some .int)) d 0 [.ref (g.1 + 3)] h (some (.int c)) h1 := by
  refine qt_Met.of (plainFor_of_name (by decide)) (Nat.le_of_ble_eq_true rfl) ?_
  have G : qg_i (some (.int c)) h1 ((c, h1)) := ⟨rfl, rfl⟩
  unfold m_X8_draw at E
  refine qt_aload_n 0 dX8_draw_0 rfl rfl ?_
  refine qt_aload_n 0 dX8_draw_1 rfl rfl ?_
  refine qt_getI (wl_3 h) fe_RX8_39 rfl dX8_draw_2 ?_
  refine qt_i2l dX8_draw_5 ?_
  refine qt_ldc2 tb_1308 dX8_draw_6 ?_
  refine qt_lmul dX8_draw_9 ?_
  refine qt_ldc2 tb_1309 dX8_draw_10 ?_
  refine qt_ladd dX8_draw_13 ?_
  refine qt_ldc2 tb_1310 dX8_draw_14 ?_
  refine qt_lremK dX8_draw_17 (by decide) ?_
  refine qt_l2i dX8_draw_18 ?_
  refine qt_putI (wl_3 h) fd_RX8_39 rfl rfl rfl dX8_draw_19 E (fun h19 E => ?_)
  refine qt_aload_n 0 dX8_draw_22 rfl rfl ?_
  refine qt_getI (wl_3 h19) fe_RX8_39 rfl dX8_draw_23 ?_
  refine qt_ldc tb_1311 dX8_draw_26 ?_
  refine qt_idivK dX8_draw_28 (by decide) ?_
  exact qt_ireturn rfl (Nat.le_of_ble_eq_true rfl) dX8_draw_29 E G
noncomputable def m_X11_drawn (x1 : Int32) (h : qa_M) : Option (Int32 × qa_M) :=
  qbn (m_X11_known x1 h) (fun (c2 : Int32) (h2 : qa_M) =>
  if c2 = 0 then (
   some ((-1 : Int32), h2))
  else (
   qbn (m_X11_howMany x1 h2) (fun (c12 : Int32) (h12 : qa_M) =>
   qbd c12 (fun v15 : Int32 =>
   if v15 = 0 then (
    some ((-2 : Int32), h12))
   else (
    qbn (m_X8_draw h12) (fun (c29 : Int32) (h29 : qa_M) =>
    qnz (v15 = 0) (
    some ((c29 - c29 / v15 * v15), h29))))))))
set_option maxRecDepth 20000 in
theorem c_X11_drawn {l : Launch} {g : qa_G} {d : Nat} (x1 : Int32) (h : qa_M) {c : Int32} {h1 : qa_M} (E : m_X11_drawn x1 h = some (c, h1)) : qt_Met l g (yX11_drawn, cX11_drawn, 3, (some .int)) (d + 7) 0 [.ref (g.1 + 0), .int x1] h (some (.int c)) h1 := by
  refine qt_Met.of (plainFor_of_name (by decide)) (Nat.le_of_ble_eq_true rfl) ?_
  have G : qg_i (some (.int c)) h1 ((c, h1)) := ⟨rfl, rfl⟩
  unfold m_X11_drawn at E
  refine qt_aload_n 0 dX11_drawn_0 rfl rfl ?_
  refine qt_iload_n 1 dX11_drawn_1 rfl rfl ?_
  obtain ⟨c2, h2, e2, E⟩ := qbn_el E
  refine qt_callVi (b2 := 0) [.int x1] (c_X11_known x1 h e2) cv_RX11_187 (wl_0 h) rfl rfl rfl (Nat.le_of_ble_eq_true rfl) (Nat.le_of_ble_eq_true rfl) dX11_drawn_2 ?_
  refine qt_if_ne 10 dX11_drawn_5 (by decide) E (fun E => ?_) (fun E => ?_)
  · refine qt_aload_n 0 dX11_drawn_10 rfl rfl ?_
    refine qt_iload_n 1 dX11_drawn_11 rfl rfl ?_
    obtain ⟨c12, h12, e12, E⟩ := qbn_el E
    refine qt_callVi (b2 := 0) [.int x1] (c_X11_howMany x1 h2 e12) cv_RX11_191 (wl_0 h2) rfl rfl rfl (Nat.le_of_ble_eq_true rfl) (Nat.le_of_ble_eq_true rfl) dX11_drawn_12 ?_
    refine qt_istore_n (fun v15 => [(2, .int v15), (0, .ref (g.1 + 0)), (1, .int x1)]) dX11_drawn_15 rfl (Nat.le_of_ble_eq_true rfl) (fun _ => rfl) E (fun v15 E => ?_)
    refine qt_iload_n 0 dX11_drawn_16 rfl rfl ?_
    refine qt_if_ne 25 dX11_drawn_17 (by decide) E (fun E => ?_) (fun E => ?_)
    · refine qt_aload_n 1 dX11_drawn_25 rfl rfl ?_
      refine qt_getS 3 (wl_0 h12) fe_RX11_19 rfl dX11_drawn_26 ?_
      obtain ⟨c29, h29, e29, E⟩ := qbn_el E
      refine qt_callVi (b2 := 0) [] (c_X8_draw h12 e29) cv_RX11_274 (wl_3 h12) rfl rfl rfl (Nat.le_of_ble_eq_true rfl) (Nat.le_of_ble_eq_true rfl) dX11_drawn_29 ?_
      refine qt_iload_n 0 dX11_drawn_32 rfl rfl ?_
      refine qt_irem dX11_drawn_33 E (fun E => ?_)
      exact qt_ireturn rfl (Nat.le_of_ble_eq_true rfl) dX11_drawn_34 E G
    · refine qt_bipush dX11_drawn_20 cb_m2 ?_
      refine qt_goto 34 dX11_drawn_22 (by decide) ?_
      exact qt_ireturn rfl (Nat.le_of_ble_eq_true rfl) dX11_drawn_34 E G
  · refine qt_iconst dX11_drawn_8 ci_m1 ?_
    exact qt_ireturn rfl (Nat.le_of_ble_eq_true rfl) dX11_drawn_9 E G
noncomputable def m_X11_count (x1 : Int32) (h : qa_M) : Option (Int32 × qa_M) :=
  if x1 = (0 : Int32) then (
   some (h.1 4 0, h))
  else (
  if x1 = (1 : Int32) then (
   some (h.1 4 1, h))
  else (
  if x1 = (2 : Int32) then (
   some (h.1 4 2, h))
  else (
  if x1 = (3 : Int32) then (
   some (h.1 4 3, h))
  else (
  if x1 = (4 : Int32) then (
   some (h.1 4 4, h))
  else (
  if x1 = (5 : Int32) then (
   some (h.1 4 5, h))
  else (
  if x1 = (6 : Int32) then (
   some (h.1 3 1, h))
  else (
  if x1 = (7 : Int32) then (
   some (h.1 0 5, h))
  else (
  if x1 = (8 : Int32) then (
   some (h.1 3 3, h))
  else (
  if x1 = (9 : Int32) then (
   some (h.1 3 4, h))
  else (
  if x1 = (10 : Int32) then (
   some (h.1 1 1, h))
  else (
  some ((-1 : Int32), h))))))))))))
set_option maxRecDepth 20000 in
theorem c_X11_count {l : Launch} {g : qa_G} {d : Nat} (x1 : Int32) (h : qa_M) {c : Int32} {h1 : qa_M} (E : m_X11_count x1 h = some (c, h1)) : qt_Met l g (yX11_count, cX11_count, 3, (some .int)) d 0 [.ref (g.1 + 0), .int x1] h (some (.int c)) h1 := by
  refine qt_Met.of (plainFor_of_name (by decide)) (Nat.le_of_ble_eq_true rfl) ?_
  have G : qg_i (some (.int c)) h1 ((c, h1)) := ⟨rfl, rfl⟩
  unfold m_X11_count at E
  refine qt_aload_n 0 dX11_count_0 rfl rfl ?_
  refine qt_getS 3 (wl_0 h) fe_RX11_19 rfl dX11_count_1 ?_
  refine qt_getS 4 (wl_3 h) fe_RX11_108 rfl dX11_count_4 ?_
  refine qt_astore_n [(2, .ref (g.1 + 4)), (0, .ref (g.1 + 0)), (1, .int x1)] dX11_count_7 rfl (Nat.le_of_ble_eq_true rfl) rfl ?_
  refine qt_iload_n 2 dX11_count_8 rfl rfl ?_
  by_cases c9_0 : x1 = (0 : Int32)
  · replace E := qif_t c9_0 E
    refine qt_tabIn (off := 59) 68 dX11_count_9 c9_0 (by decide) (by decide) rfl (by decide) ?_
    refine qt_aload_n 0 dX11_count_68 rfl rfl ?_
    refine qt_getI (wl_4 h) fe_RX11_218 rfl dX11_count_69 ?_
    exact qt_ireturn rfl (Nat.le_of_ble_eq_true rfl) dX11_count_72 E G
  replace E := qif_f c9_0 E
  by_cases c9_1 : x1 = (1 : Int32)
  · replace E := qif_t c9_1 E
    refine qt_tabIn (off := 64) 73 dX11_count_9 c9_1 (by decide) (by decide) rfl (by decide) ?_
    refine qt_aload_n 0 dX11_count_73 rfl rfl ?_
    refine qt_getI (wl_4 h) fe_RX11_215 rfl dX11_count_74 ?_
    exact qt_ireturn rfl (Nat.le_of_ble_eq_true rfl) dX11_count_77 E G
  replace E := qif_f c9_1 E
  by_cases c9_2 : x1 = (2 : Int32)
  · replace E := qif_t c9_2 E
    refine qt_tabIn (off := 69) 78 dX11_count_9 c9_2 (by decide) (by decide) rfl (by decide) ?_
    refine qt_aload_n 0 dX11_count_78 rfl rfl ?_
    refine qt_getI (wl_4 h) fe_RX11_118 rfl dX11_count_79 ?_
    exact qt_ireturn rfl (Nat.le_of_ble_eq_true rfl) dX11_count_82 E G
  replace E := qif_f c9_2 E
  by_cases c9_3 : x1 = (3 : Int32)
  · replace E := qif_t c9_3 E
    refine qt_tabIn (off := 74) 83 dX11_count_9 c9_3 (by decide) (by decide) rfl (by decide) ?_
    refine qt_aload_n 0 dX11_count_83 rfl rfl ?_
    refine qt_getI (wl_4 h) fe_RX11_134 rfl dX11_count_84 ?_
    exact qt_ireturn rfl (Nat.le_of_ble_eq_true rfl) dX11_count_87 E G
  replace E := qif_f c9_3 E
  by_cases c9_4 : x1 = (4 : Int32)
  · replace E := qif_t c9_4 E
    refine qt_tabIn (off := 79) 88 dX11_count_9 c9_4 (by decide) (by decide) rfl (by decide) ?_
    refine qt_aload_n 0 dX11_count_88 rfl rfl ?_
    refine qt_getI (wl_4 h) fe_RX11_137 rfl dX11_count_89 ?_
    exact qt_ireturn rfl (Nat.le_of_ble_eq_true rfl) dX11_count_92 E G
  replace E := qif_f c9_4 E
  by_cases c9_5 : x1 = (5 : Int32)
  · replace E := qif_t c9_5 E
    refine qt_tabIn (off := 84) 93 dX11_count_9 c9_5 (by decide) (by decide) rfl (by decide) ?_
    refine qt_aload_n 0 dX11_count_93 rfl rfl ?_
    refine qt_getI (wl_4 h) fe_RX11_277 rfl dX11_count_94 ?_
    exact qt_ireturn rfl (Nat.le_of_ble_eq_true rfl) dX11_count_97 E G
  replace E := qif_f c9_5 E
  by_cases c9_6 : x1 = (6 : Int32)
  · replace E := qif_t c9_6 E
    refine qt_tabIn (off := 89) 98 dX11_count_9 c9_6 (by decide) (by decide) rfl (by decide) ?_
    refine qt_aload_n 1 dX11_count_98 rfl rfl ?_
    refine qt_getS 3 (wl_0 h) fe_RX11_19 rfl dX11_count_99 ?_
    refine qt_getI (wl_3 h) fe_RX11_115 rfl dX11_count_102 ?_
    exact qt_ireturn rfl (Nat.le_of_ble_eq_true rfl) dX11_count_105 E G
  replace E := qif_f c9_6 E
  by_cases c9_7 : x1 = (7 : Int32)
  · replace E := qif_t c9_7 E
    refine qt_tabIn (off := 97) 106 dX11_count_9 c9_7 (by decide) (by decide) rfl (by decide) ?_
    refine qt_aload_n 1 dX11_count_106 rfl rfl ?_
    refine qt_getI (wl_0 h) fe_RX11_121 rfl dX11_count_107 ?_
    exact qt_ireturn rfl (Nat.le_of_ble_eq_true rfl) dX11_count_110 E G
  replace E := qif_f c9_7 E
  by_cases c9_8 : x1 = (8 : Int32)
  · replace E := qif_t c9_8 E
    refine qt_tabIn (off := 102) 111 dX11_count_9 c9_8 (by decide) (by decide) rfl (by decide) ?_
    refine qt_aload_n 1 dX11_count_111 rfl rfl ?_
    refine qt_getS 3 (wl_0 h) fe_RX11_19 rfl dX11_count_112 ?_
    refine qt_getI (wl_3 h) fe_RX11_127 rfl dX11_count_115 ?_
    exact qt_ireturn rfl (Nat.le_of_ble_eq_true rfl) dX11_count_118 E G
  replace E := qif_f c9_8 E
  by_cases c9_9 : x1 = (9 : Int32)
  · replace E := qif_t c9_9 E
    refine qt_tabIn (off := 110) 119 dX11_count_9 c9_9 (by decide) (by decide) rfl (by decide) ?_
    refine qt_aload_n 1 dX11_count_119 rfl rfl ?_
    refine qt_getS 3 (wl_0 h) fe_RX11_19 rfl dX11_count_120 ?_
    refine qt_getI (wl_3 h) fe_RX11_271 rfl dX11_count_123 ?_
    exact qt_ireturn rfl (Nat.le_of_ble_eq_true rfl) dX11_count_126 E G
  replace E := qif_f c9_9 E
  by_cases c9_10 : x1 = (10 : Int32)
  · replace E := qif_t c9_10 E
    refine qt_tabIn (off := 118) 127 dX11_count_9 c9_10 (by decide) (by decide) rfl (by decide) ?_
    refine qt_aload_n 1 dX11_count_127 rfl rfl ?_
    refine qt_getS 1 (wl_0 h) fe_RX11_10 rfl dX11_count_128 ?_
    refine qt_getI (wl_1 h) fe_RX11_97 rfl dX11_count_131 ?_
    exact qt_ireturn rfl (Nat.le_of_ble_eq_true rfl) dX11_count_134 E G
  replace E := qif_f c9_10 E
  have e9_0 : (x1 : Int32).toInt ≠ 0 := fun q => c9_0 (Int32.toInt_inj.mp (q.trans (by decide)))
  have e9_1 : (x1 : Int32).toInt ≠ 1 := fun q => c9_1 (Int32.toInt_inj.mp (q.trans (by decide)))
  have e9_2 : (x1 : Int32).toInt ≠ 2 := fun q => c9_2 (Int32.toInt_inj.mp (q.trans (by decide)))
  have e9_3 : (x1 : Int32).toInt ≠ 3 := fun q => c9_3 (Int32.toInt_inj.mp (q.trans (by decide)))
  have e9_4 : (x1 : Int32).toInt ≠ 4 := fun q => c9_4 (Int32.toInt_inj.mp (q.trans (by decide)))
  have e9_5 : (x1 : Int32).toInt ≠ 5 := fun q => c9_5 (Int32.toInt_inj.mp (q.trans (by decide)))
  have e9_6 : (x1 : Int32).toInt ≠ 6 := fun q => c9_6 (Int32.toInt_inj.mp (q.trans (by decide)))
  have e9_7 : (x1 : Int32).toInt ≠ 7 := fun q => c9_7 (Int32.toInt_inj.mp (q.trans (by decide)))
  have e9_8 : (x1 : Int32).toInt ≠ 8 := fun q => c9_8 (Int32.toInt_inj.mp (q.trans (by decide)))
  have e9_9 : (x1 : Int32).toInt ≠ 9 := fun q => c9_9 (Int32.toInt_inj.mp (q.trans (by decide)))
  have e9_10 : (x1 : Int32).toInt ≠ 10 := fun q => c9_10 (Int32.toInt_inj.mp (q.trans (by decide)))
  refine qt_tabOut 135 dX11_count_9 (by omega) (by decide) ?_
  refine qt_iconst dX11_count_135 ci_m1 ?_
  exact qt_ireturn rfl (Nat.le_of_ble_eq_true rfl) dX11_count_136 E G
noncomputable def m_X8_copy (a0 : Nat) (a1 : Nat) (h : qa_M) : Option qa_M :=
  qbv (m_X3_copy (a0 + 1) (a1 + 1) h) (fun h8 : qa_M =>
  qbd (qw_I h8 a0 1 (h8.1 a1 1)) (fun h16 : qa_M =>
  qbd (qw_cI h16 (a1 + 7) 0 (a0 + 7) 0 50) (fun h34 : qa_M =>
  qbd (qw_I h34 a0 3 (h34.1 a1 3)) (fun h42 : qa_M =>
  qbd (qw_I h42 a0 4 (h42.1 a1 4)) (fun h50 : qa_M =>
  some h50)))))
set_option maxRecDepth 20000 in
theorem c_X8_copy {l : Launch} {g : qa_G} {d : Nat} (a0 : Nat) (a1 : Nat) (h : qa_M) (ha0 : qState a0) (ha1 : qState a1) {h1 : qa_M} (E : m_X8_copy a0 a1 h = some h1) : qt_Met l g (yX8_copy, cX8_copy, 2, none) (d + 2) 0 [.ref (g.1 + a0), .ref (g.1 + a1)] h none h1 := by
  refine qt_Met.of (plainFor_of_name (by decide)) (Nat.le_of_ble_eq_true rfl) ?_
  have G : qg_v none h1 (h1) := ⟨rfl, rfl⟩
  unfold m_X8_copy at E
  refine qt_aload_n 0 dX8_copy_0 rfl rfl ?_
  refine qt_getS (a0 + 1) (wl_State_0 ha0 h) fe_RX8_12 rfl dX8_copy_1 ?_
  refine qt_aload_n 1 dX8_copy_4 rfl rfl ?_
  refine qt_getS (a1 + 1) (wl_State_0 ha1 h) fe_RX8_12 rfl dX8_copy_5 ?_
  obtain ⟨h8, e8, E⟩ := qbv_el E
  refine qt_callVv (b2 := 0) [.ref (g.1 + (a1 + 1))] (c_X3_copy (a0 + 1) (a1 + 1) h (qState_land ha0) (qState_land ha1) e8) cv_RX8_26 (wl_Land_0 (qState_land ha0) h) rfl rfl rfl (Nat.le_of_ble_eq_true rfl) (Nat.le_of_ble_eq_true rfl) dX8_copy_8 ?_
  refine qt_aload_n 0 dX8_copy_11 rfl rfl ?_
  refine qt_aload_n 1 dX8_copy_12 rfl rfl ?_
  refine qt_getI (wl_State_0 ha1 h8) fe_RX8_30 rfl dX8_copy_13 ?_
  refine qt_putI (wl_State_0 ha0 h8) fd_RX8_30 rfl rfl rfl dX8_copy_16 E (fun h16 E => ?_)
  refine qt_aload_n 1 dX8_copy_19 rfl rfl ?_
  refine qt_getS (a1 + 7) (wl_State_0 ha1 h16) fe_RX8_18 rfl dX8_copy_20 ?_
  refine qt_iconst dX8_copy_23 ci_0 ?_
  refine qt_aload_n 0 dX8_copy_24 rfl rfl ?_
  refine qt_getS (a0 + 7) (wl_State_0 ha0 h16) fe_RX8_18 rfl dX8_copy_25 ?_
  refine qt_iconst dX8_copy_28 ci_0 ?_
  refine qt_aload_n 0 dX8_copy_29 rfl rfl ?_
  refine qt_getS (a0 + 7) (wl_State_0 ha0 h16) fe_RX8_18 rfl dX8_copy_30 ?_
  refine qt_alen (v := (50 : Int32)) (by decide) (wl_State_7 ha0 h16) cn_50 dX8_copy_33 ?_
  refine qt_copyI 50 (wl_State_7 ha1 h16) (wl_State_7 ha0 h16) tb_1325 rfl (Nat.le_of_ble_eq_true rfl) (Nat.le_of_ble_eq_true rfl) dX8_copy_34 (Nat.le_of_ble_eq_true rfl) E (fun h34 E => ?_)
  refine qt_aload_n 0 dX8_copy_37 rfl rfl ?_
  refine qt_aload_n 1 dX8_copy_38 rfl rfl ?_
  refine qt_getI (wl_State_0 ha1 h34) fe_RX8_22 rfl dX8_copy_39 ?_
  refine qt_putI (wl_State_0 ha0 h34) fd_RX8_22 rfl rfl rfl dX8_copy_42 E (fun h42 E => ?_)
  refine qt_aload_n 0 dX8_copy_45 rfl rfl ?_
  refine qt_aload_n 1 dX8_copy_46 rfl rfl ?_
  refine qt_getI (wl_State_0 ha1 h42) fe_RX8_39 rfl dX8_copy_47 ?_
  refine qt_putI (wl_State_0 ha0 h42) fd_RX8_39 rfl rfl rfl dX8_copy_50 E (fun h50 E => ?_)
  exact qt_vreturn rfl (Nat.le_of_ble_eq_true rfl) dX8_copy_53 E G
noncomputable def m_X11_image (x1 : Int32) (h : qa_M) : Option (Int32 × qa_M) :=
  qbn (m_X11_within x1 (4 : Int32) h) (fun (c2 : Int32) (h2 : qa_M) =>
  if c2 = 0 then (
   some ((-1 : Int32), h2))
  else (
   qck x1 4 (
   qnn (h2.2.2.1 11 x1.toNatClampNeg) (fun a15 =>
   qpr (a15 = 3 ∨ a15 = 51 ∨ a15 = 59 ∨ a15 = 67 ∨ a15 = 75) (
   qbv (m_X8_copy a15 3 h2) (fun h20 : qa_M =>
   qck x1 4 (
   qbd (qw_I h20 12 x1.toNatClampNeg (1 : Int32)) (fun h29 : qa_M =>
   some (h29.1 3 1, h29)))))))))
set_option maxRecDepth 20000 in
theorem c_X11_image {l : Launch} {g : qa_G} {d : Nat} (x1 : Int32) (h : qa_M) {c : Int32} {h1 : qa_M} (E : m_X11_image x1 h = some (c, h1)) : qt_Met l g (yX11_image, cX11_image, 2, (some .int)) (d + 3) 0 [.ref (g.1 + 0), .int x1] h (some (.int c)) h1 := by
  refine qt_Met.of (plainFor_of_name (by decide)) (Nat.le_of_ble_eq_true rfl) ?_
  have G : qg_i (some (.int c)) h1 ((c, h1)) := ⟨rfl, rfl⟩
  unfold m_X11_image at E
  refine qt_iload_n 1 dX11_image_0 rfl rfl ?_
  refine qt_iconst dX11_image_1 ci_4 ?_
  obtain ⟨c2, h2, e2, E⟩ := qbn_el E
  refine qt_callSi (b2 := 0) [.int x1, .int (4 : Int32)] (c_X11_within x1 (4 : Int32) h e2) cv_RX11_130 rfl (Nat.le_of_ble_eq_true rfl) (Nat.le_of_ble_eq_true rfl) dX11_image_2 ?_
  refine qt_if_ne 10 dX11_image_5 (by decide) E (fun E => ?_) (fun E => ?_)
  · refine qt_aload_n 0 dX11_image_10 rfl rfl ?_
    refine qt_getS 11 (wl_0 h2) fe_RX11_23 rfl dX11_image_11 ?_
    refine qt_iload_n 1 dX11_image_14 rfl rfl ?_
    refine qt_aald (Or.inl rfl) (wl_11 h2) dX11_image_15 E (fun E => ?_)
    obtain ⟨a15, q15, E⟩ := qnn_el E
    refine qt_nn q15 ?_
    obtain ⟨p15, E⟩ := qpr_el E
    refine qt_aload_n 0 dX11_image_16 rfl rfl ?_
    refine qt_getS 3 (wl_0 h2) fe_RX11_19 rfl dX11_image_17 ?_
    obtain ⟨h20, e20, E⟩ := qbv_el E
    refine qt_callVv (b2 := 0) [.ref (g.1 + 3)] (c_X8_copy a15 3 h2 p15 (show qState 3 by unfold qState; decide) e20) cv_RX11_280 (wl_State_0 p15 h2) rfl rfl rfl (Nat.le_of_ble_eq_true rfl) (Nat.le_of_ble_eq_true rfl) dX11_image_20 ?_
    refine qt_aload_n 0 dX11_image_23 rfl rfl ?_
    refine qt_getS 12 (wl_0 h20) fe_RX11_27 rfl dX11_image_24 ?_
    refine qt_iload_n 1 dX11_image_27 rfl rfl ?_
    refine qt_iconst dX11_image_28 ci_1 ?_
    refine qt_zast (wl_12 h20) (qz_nar (Or.inr rfl)) dX11_image_29 E (fun h29 E => ?_)
    refine qt_aload_n 0 dX11_image_30 rfl rfl ?_
    refine qt_getS 3 (wl_0 h29) fe_RX11_19 rfl dX11_image_31 ?_
    refine qt_getI (wl_3 h29) fe_RX11_115 rfl dX11_image_34 ?_
    exact qt_ireturn rfl (Nat.le_of_ble_eq_true rfl) dX11_image_37 E G
  · refine qt_iconst dX11_image_8 ci_m1 ?_
    exact qt_ireturn rfl (Nat.le_of_ble_eq_true rfl) dX11_image_9 E G
noncomputable def m_X11_back (x1 : Int32) (h : qa_M) : Option (Int32 × qa_M) :=
  qbn (m_X11_within x1 (4 : Int32) h) (fun (c2 : Int32) (h2 : qa_M) =>
  if c2 = 0 then (
   some ((-1 : Int32), h2))
  else (
   qck x1 4 (
   if (h2.1 12 x1.toNatClampNeg) = 0 then (
    some ((-1 : Int32), h2))
   else (
    qck x1 4 (
    qnn (h2.2.2.1 11 x1.toNatClampNeg) (fun a28 =>
    qpr (a28 = 3 ∨ a28 = 51 ∨ a28 = 59 ∨ a28 = 67 ∨ a28 = 75) (
    qbv (m_X8_copy 3 a28 h2) (fun h29 : qa_M =>
    qbd (qw_I h29 0 13 ((h29.1 0 13) + (1 : Int32))) (fun h39 : qa_M =>
    some (h39.1 3 1, h39))))))))))
set_option maxRecDepth 20000 in
theorem c_X11_back {l : Launch} {g : qa_G} {d : Nat} (x1 : Int32) (h : qa_M) {c : Int32} {h1 : qa_M} (E : m_X11_back x1 h = some (c, h1)) : qt_Met l g (yX11_back, cX11_back, 2, (some .int)) (d + 3) 0 [.ref (g.1 + 0), .int x1] h (some (.int c)) h1 := by
  refine qt_Met.of (plainFor_of_name (by decide)) (Nat.le_of_ble_eq_true rfl) ?_
  have G : qg_i (some (.int c)) h1 ((c, h1)) := ⟨rfl, rfl⟩
  unfold m_X11_back at E
  refine qt_iload_n 1 dX11_back_0 rfl rfl ?_
  refine qt_iconst dX11_back_1 ci_4 ?_
  obtain ⟨c2, h2, e2, E⟩ := qbn_el E
  refine qt_callSi (b2 := 0) [.int x1, .int (4 : Int32)] (c_X11_within x1 (4 : Int32) h e2) cv_RX11_130 rfl (Nat.le_of_ble_eq_true rfl) (Nat.le_of_ble_eq_true rfl) dX11_back_2 ?_
  refine qt_if_eq 17 dX11_back_5 (by decide) E (fun E => ?_) (fun E => ?_)
  · refine qt_iconst dX11_back_17 ci_m1 ?_
    exact qt_ireturn rfl (Nat.le_of_ble_eq_true rfl) dX11_back_18 E G
  · refine qt_aload_n 0 dX11_back_8 rfl rfl ?_
    refine qt_getS 12 (wl_0 h2) fe_RX11_27 rfl dX11_back_9 ?_
    refine qt_iload_n 1 dX11_back_12 rfl rfl ?_
    refine qt_zald (wl_12 h2) dX11_back_13 E (fun E => ?_)
    refine qt_if_ne 19 dX11_back_14 (by decide) E (fun E => ?_) (fun E => ?_)
    · refine qt_aload_n 0 dX11_back_19 rfl rfl ?_
      refine qt_getS 3 (wl_0 h2) fe_RX11_19 rfl dX11_back_20 ?_
      refine qt_aload_n 0 dX11_back_23 rfl rfl ?_
      refine qt_getS 11 (wl_0 h2) fe_RX11_23 rfl dX11_back_24 ?_
      refine qt_iload_n 1 dX11_back_27 rfl rfl ?_
      refine qt_aald (Or.inl rfl) (wl_11 h2) dX11_back_28 E (fun E => ?_)
      obtain ⟨a28, q28, E⟩ := qnn_el E
      refine qt_nn q28 ?_
      obtain ⟨p28, E⟩ := qpr_el E
      obtain ⟨h29, e29, E⟩ := qbv_el E
      refine qt_callVv (b2 := 0) [.ref (g.1 + a28)] (c_X8_copy 3 a28 h2 (show qState 3 by unfold qState; decide) p28 e29) cv_RX11_280 (wl_3 h2) rfl rfl rfl (Nat.le_of_ble_eq_true rfl) (Nat.le_of_ble_eq_true rfl) dX11_back_29 ?_
      refine qt_aload_n 0 dX11_back_32 rfl rfl ?_
      refine qt_dup dX11_back_33 rfl ?_
      refine qt_getI (wl_0 h29) fe_RX11_92 rfl dX11_back_34 ?_
      refine qt_iconst dX11_back_37 ci_1 ?_
      refine qt_iadd dX11_back_38 ?_
      refine qt_putI (wl_0 h29) fd_RX11_92 rfl rfl rfl dX11_back_39 E (fun h39 E => ?_)
      refine qt_aload_n 0 dX11_back_42 rfl rfl ?_
      refine qt_getS 3 (wl_0 h39) fe_RX11_19 rfl dX11_back_43 ?_
      refine qt_getI (wl_3 h39) fe_RX11_115 rfl dX11_back_46 ?_
      exact qt_ireturn rfl (Nat.le_of_ble_eq_true rfl) dX11_back_49 E G
    · refine qt_iconst dX11_back_17 ci_m1 ?_
      exact qt_ireturn rfl (Nat.le_of_ble_eq_true rfl) dX11_back_18 E G
noncomputable def f_X12_put_b3 (x1 : Int32) (x2 : Int32) (h : qa_M) : Option ((Int32 × Int32 × qa_M) ⊕ qa_M) :=
  if x2 < 0 then (
   qup (some h))
  else (
   qck (h.1 119 20) 400 (
   qbd (qw_I h 139 (h.1 119 20).toNatClampNeg ((x1 >>> (x2 &&& 31)).toInt8.toInt32).toInt8.toInt32) (fun h19 : qa_M =>
   qbd (qw_I h19 119 20 ((h19.1 119 20) + (1 : Int32))) (fun h27 : qa_M =>
   qbd (x2 + (-8 : Int32)) (fun v30 : Int32 =>
   some (.inl (x1, v30, h27)))))))
set_option maxRecDepth 20000 in
theorem s_X12_put_b3 {l : Launch} {g : qa_G} {d : Nat} {rz : Option Value} {hz : qa_M} (x1 : Int32) (x2 : Int32) (h : qa_M) {z : ((Int32 × Int32 × qa_M) ⊕ qa_M)} (E : f_X12_put_b3 x1 x2 h = some z) (G : (Sum.elim (fun (sz : Int32 × Int32 × qa_M) => qt_At l g (yX12_put, cX12_put, 3, none) d 0 0 3 [(0, .ref (g.1 + 119)), (1, .int sz.1), (2, .int sz.2.1)] [] sz.2.2 rz hz) (qg_v rz hz)) z) : qt_At l g (yX12_put, cX12_put, 3, none) d 0 0 3 [(0, .ref (g.1 + 119)), (1, .int x1), (2, .int x2)] [] h rz hz := by
  unfold f_X12_put_b3 at E
  refine qt_iload_n 2 dX12_put_3 rfl rfl ?_
  refine qt_if_lt 36 dX12_put_4 (by decide) E (fun E => ?_) (fun E => ?_)
  · obtain ⟨z0_, E, G⟩ := qup_g E G
    exact qt_vreturn rfl (Nat.le_of_ble_eq_true rfl) dX12_put_36 E G
  · refine qt_aload_n 0 dX12_put_7 rfl rfl ?_
    refine qt_getS 139 (wl_119 h) fe_RX12_71 rfl dX12_put_8 ?_
    refine qt_aload_n 0 dX12_put_11 rfl rfl ?_
    refine qt_getI (wl_119 h) fe_RX12_215 rfl dX12_put_12 ?_
    refine qt_iload_n 1 dX12_put_15 rfl rfl ?_
    refine qt_iload_n 2 dX12_put_16 rfl rfl ?_
    refine qt_ishr dX12_put_17 ?_
    refine qt_i2b dX12_put_18 ?_
    refine qt_bast (wl_139 h) dX12_put_19 E (fun h19 E => ?_)
    refine qt_aload_n 0 dX12_put_20 rfl rfl ?_
    refine qt_dup dX12_put_21 rfl ?_
    refine qt_getI (wl_119 h19) fe_RX12_215 rfl dX12_put_22 ?_
    refine qt_iconst dX12_put_25 ci_1 ?_
    refine qt_iadd dX12_put_26 ?_
    refine qt_putI (wl_119 h19) fd_RX12_215 rfl rfl rfl dX12_put_27 E (fun h27 E => ?_)
    refine qt_iinc 2 (fun v30 => [(2, .int v30), (0, .ref (g.1 + 119)), (1, .int x1)]) dX12_put_30 rfl ci_m8 (Nat.le_of_ble_eq_true rfl) (fun _ => rfl) E (fun v30 E => ?_)
    refine qt_goto 3 dX12_put_33 (by decide) ?_
    cases E
    exact qt_sub _ [1, 2, 0] rfl (G)
noncomputable def f_X12_put_b3_loop (x1 : Int32) (x2 : Int32) (h : qa_M) : Option qa_M := qlp (fun sz : Int32 × Int32 × qa_M => f_X12_put_b3 sz.1 sz.2.1 sz.2.2) (x1, x2, h)
theorem s_X12_put_b3_loop {l : Launch} {g : qa_G} {d : Nat} {rz : Option Value} {hz : qa_M} (x1 : Int32) (x2 : Int32) (h : qa_M) {z : qa_M} (E : f_X12_put_b3_loop x1 x2 h = some z) (G : (qg_v rz hz) z) : qt_At l g (yX12_put, cX12_put, 3, none) d 0 0 3 [(0, .ref (g.1 + 119)), (1, .int x1), (2, .int x2)] [] h rz hz :=
  qlp_ind (fun sz : Int32 × Int32 × qa_M => qt_At l g (yX12_put, cX12_put, 3, none) d 0 0 3 [(0, .ref (g.1 + 119)), (1, .int sz.1), (2, .int sz.2.1)] [] sz.2.2 rz hz) (fun sz E => s_X12_put_b3 sz.1 sz.2.1 sz.2.2 E G) (fun sz sz2 E ih => s_X12_put_b3 sz.1 sz.2.1 sz.2.2 E ih) (x1, x2, h) E
noncomputable def m_X12_put (x1 : Int32) (h : qa_M) : Option qa_M :=
  qbd (24 : Int32) (fun v2 : Int32 =>
  f_X12_put_b3_loop x1 v2 h)
set_option maxRecDepth 20000 in
theorem c_X12_put {l : Launch} {g : qa_G} {d : Nat} (x1 : Int32) (h : qa_M) {h1 : qa_M} (E : m_X12_put x1 h = some h1) : qt_Met l g (yX12_put, cX12_put, 3, none) d 0 [.ref (g.1 + 119), .int x1] h none h1 := by
  refine qt_Met.of (plainFor_of_name (by decide)) (Nat.le_of_ble_eq_true rfl) ?_
  have G : qg_v none h1 (h1) := ⟨rfl, rfl⟩
  unfold m_X12_put at E
  refine qt_bipush dX12_put_0 cb_24 ?_
  refine qt_istore_n (fun v2 => [(2, .int v2), (0, .ref (g.1 + 119)), (1, .int x1)]) dX12_put_2 rfl (Nat.le_of_ble_eq_true rfl) (fun _ => rfl) E (fun v2 E => ?_)
  exact qt_sub _ [1, 2, 0] rfl ((s_X12_put_b3_loop x1 v2 h E G))
noncomputable def m_X12_feed (x1 : Int32) (x2 : Int32) (x3 : Int32) (x4 : Int32) (x5 : Int32) (h : qa_M) : Option (Int32 × qa_M) :=
  if ((h.1 119 20) + (20 : Int32)) ≤ (400 : Int32) then (
   qbv (m_X12_put x1 h) (fun h17 : qa_M =>
   qbv (m_X12_put x2 h17) (fun h22 : qa_M =>
   qbv (m_X12_put x3 h22) (fun h27 : qa_M =>
   qbv (m_X12_put x4 h27) (fun h33 : qa_M =>
   qbv (m_X12_put x5 h33) (fun h39 : qa_M =>
   some (h39.1 119 20, h39)))))))
  else (
   some ((-1 : Int32), h))
set_option maxRecDepth 20000 in
theorem c_X12_feed {l : Launch} {g : qa_G} {d : Nat} (x1 : Int32) (x2 : Int32) (x3 : Int32) (x4 : Int32) (x5 : Int32) (h : qa_M) {c : Int32} {h1 : qa_M} (E : m_X12_feed x1 x2 x3 x4 x5 h = some (c, h1)) : qt_Met l g (yX12_feed, cX12_feed, 6, (some .int)) (d + 1) 0 [.ref (g.1 + 119), .int x1, .int x2, .int x3, .int x4, .int x5] h (some (.int c)) h1 := by
  refine qt_Met.of (plainFor_of_name (by decide)) (Nat.le_of_ble_eq_true rfl) ?_
  have G : qg_i (some (.int c)) h1 ((c, h1)) := ⟨rfl, rfl⟩
  unfold m_X12_feed at E
  refine qt_aload_n 0 dX12_feed_0 rfl rfl ?_
  refine qt_getI (wl_119 h) fe_RX12_215 rfl dX12_feed_1 ?_
  refine qt_bipush dX12_feed_4 cb_20 ?_
  refine qt_iadd dX12_feed_6 ?_
  refine qt_sipush dX12_feed_7 cs_400 ?_
  refine qt_icmp_le 15 dX12_feed_10 (by decide) E (fun E => ?_) (fun E => ?_)
  · refine qt_aload_n 0 dX12_feed_15 rfl rfl ?_
    refine qt_iload_n 1 dX12_feed_16 rfl rfl ?_
    obtain ⟨h17, e17, E⟩ := qbv_el E
    refine qt_callVv (b2 := 0) [.int x1] (c_X12_put x1 h e17) cv_RX12_218 (wl_119 h) rfl rfl rfl (Nat.le_of_ble_eq_true rfl) (Nat.le_of_ble_eq_true rfl) dX12_feed_17 ?_
    refine qt_aload_n 0 dX12_feed_20 rfl rfl ?_
    refine qt_iload_n 2 dX12_feed_21 rfl rfl ?_
    obtain ⟨h22, e22, E⟩ := qbv_el E
    refine qt_callVv (b2 := 0) [.int x2] (c_X12_put x2 h17 e22) cv_RX12_218 (wl_119 h17) rfl rfl rfl (Nat.le_of_ble_eq_true rfl) (Nat.le_of_ble_eq_true rfl) dX12_feed_22 ?_
    refine qt_aload_n 0 dX12_feed_25 rfl rfl ?_
    refine qt_iload_n 3 dX12_feed_26 rfl rfl ?_
    obtain ⟨h27, e27, E⟩ := qbv_el E
    refine qt_callVv (b2 := 0) [.int x3] (c_X12_put x3 h22 e27) cv_RX12_218 (wl_119 h22) rfl rfl rfl (Nat.le_of_ble_eq_true rfl) (Nat.le_of_ble_eq_true rfl) dX12_feed_27 ?_
    refine qt_aload_n 0 dX12_feed_30 rfl rfl ?_
    refine qt_iload 4 dX12_feed_31 rfl ?_
    obtain ⟨h33, e33, E⟩ := qbv_el E
    refine qt_callVv (b2 := 0) [.int x4] (c_X12_put x4 h27 e33) cv_RX12_218 (wl_119 h27) rfl rfl rfl (Nat.le_of_ble_eq_true rfl) (Nat.le_of_ble_eq_true rfl) dX12_feed_33 ?_
    refine qt_aload_n 0 dX12_feed_36 rfl rfl ?_
    refine qt_iload 5 dX12_feed_37 rfl ?_
    obtain ⟨h39, e39, E⟩ := qbv_el E
    refine qt_callVv (b2 := 0) [.int x5] (c_X12_put x5 h33 e39) cv_RX12_218 (wl_119 h33) rfl rfl rfl (Nat.le_of_ble_eq_true rfl) (Nat.le_of_ble_eq_true rfl) dX12_feed_39 ?_
    refine qt_aload_n 0 dX12_feed_42 rfl rfl ?_
    refine qt_getI (wl_119 h39) fe_RX12_215 rfl dX12_feed_43 ?_
    exact qt_ireturn rfl (Nat.le_of_ble_eq_true rfl) dX12_feed_46 E G
  · refine qt_iconst dX12_feed_13 ci_m1 ?_
    exact qt_ireturn rfl (Nat.le_of_ble_eq_true rfl) dX12_feed_14 E G
noncomputable def m_X12_end (x1 : Int32) (h : qa_M) : Option (Int32 × qa_M) :=
  if x1 < 0 then (
   some ((-1 : Int32), h))
  else (
   if x1 ≤ (h.1 119 20) then (
    qbd (qw_I h 119 20 x1) (fun h16 : qa_M =>
    some (x1, h16)))
   else (
    some ((-1 : Int32), h)))
set_option maxRecDepth 20000 in
theorem c_X12_end {l : Launch} {g : qa_G} {d : Nat} (x1 : Int32) (h : qa_M) {c : Int32} {h1 : qa_M} (E : m_X12_end x1 h = some (c, h1)) : qt_Met l g (yX12_end, cX12_end, 2, (some .int)) d 0 [.ref (g.1 + 119), .int x1] h (some (.int c)) h1 := by
  refine qt_Met.of (plainFor_of_name (by decide)) (Nat.le_of_ble_eq_true rfl) ?_
  have G : qg_i (some (.int c)) h1 ((c, h1)) := ⟨rfl, rfl⟩
  unfold m_X12_end at E
  refine qt_iload_n 1 dX12_end_0 rfl rfl ?_
  refine qt_if_lt 12 dX12_end_1 (by decide) E (fun E => ?_) (fun E => ?_)
  · refine qt_iconst dX12_end_12 ci_m1 ?_
    exact qt_ireturn rfl (Nat.le_of_ble_eq_true rfl) dX12_end_13 E G
  · refine qt_iload_n 1 dX12_end_4 rfl rfl ?_
    refine qt_aload_n 0 dX12_end_5 rfl rfl ?_
    refine qt_getI (wl_119 h) fe_RX12_215 rfl dX12_end_6 ?_
    refine qt_icmp_le 14 dX12_end_9 (by decide) E (fun E => ?_) (fun E => ?_)
    · refine qt_aload_n 0 dX12_end_14 rfl rfl ?_
      refine qt_iload_n 1 dX12_end_15 rfl rfl ?_
      refine qt_putI (wl_119 h) fd_RX12_215 rfl rfl rfl dX12_end_16 E (fun h16 E => ?_)
      refine qt_iload_n 1 dX12_end_19 rfl rfl ?_
      exact qt_ireturn rfl (Nat.le_of_ble_eq_true rfl) dX12_end_20 E G
    · refine qt_iconst dX12_end_12 ci_m1 ?_
      exact qt_ireturn rfl (Nat.le_of_ble_eq_true rfl) dX12_end_13 E G
noncomputable def m_X12_starts (h : qa_M) : Option qa_M :=
  qbd (qw_I h 119 21 (0 : Int32)) (fun h2 : qa_M =>
  qbd (qw_I h2 119 22 (0 : Int32)) (fun h7 : qa_M =>
  qbd (qw_I h7 119 25 (0 : Int32)) (fun h12 : qa_M =>
  qbd (qw_I h12 119 26 (0 : Int32)) (fun h17 : qa_M =>
  qbd (qw_I h17 119 27 (0 : Int32)) (fun h22 : qa_M =>
  some h22)))))
set_option maxRecDepth 20000 in
theorem c_X12_starts {l : Launch} {g : qa_G} {d : Nat} (h : qa_M) {h1 : qa_M} (E : m_X12_starts h = some h1) : qt_Met l g (yX12_starts, cX12_starts, 1, none) d 0 [.ref (g.1 + 119)] h none h1 := by
  refine qt_Met.of (plainFor_of_name (by decide)) (Nat.le_of_ble_eq_true rfl) ?_
  have G : qg_v none h1 (h1) := ⟨rfl, rfl⟩
  unfold m_X12_starts at E
  refine qt_aload_n 0 dX12_starts_0 rfl rfl ?_
  refine qt_iconst dX12_starts_1 ci_0 ?_
  refine qt_putI (wl_119 h) fd_RX12_243 rfl rfl rfl dX12_starts_2 E (fun h2 E => ?_)
  refine qt_aload_n 0 dX12_starts_5 rfl rfl ?_
  refine qt_iconst dX12_starts_6 ci_0 ?_
  refine qt_putI (wl_119 h2) fd_RX12_240 rfl rfl rfl dX12_starts_7 E (fun h7 E => ?_)
  refine qt_aload_n 0 dX12_starts_10 rfl rfl ?_
  refine qt_iconst dX12_starts_11 ci_0 ?_
  refine qt_putI (wl_119 h7) fd_RX12_273 rfl rfl rfl dX12_starts_12 E (fun h12 E => ?_)
  refine qt_aload_n 0 dX12_starts_15 rfl rfl ?_
  refine qt_iconst dX12_starts_16 ci_0 ?_
  refine qt_putI (wl_119 h12) fd_RX12_312 rfl rfl rfl dX12_starts_17 E (fun h17 E => ?_)
  refine qt_aload_n 0 dX12_starts_20 rfl rfl ?_
  refine qt_iconst dX12_starts_21 ci_0 ?_
  refine qt_putI (wl_119 h17) fd_RX12_276 rfl rfl rfl dX12_starts_22 E (fun h22 E => ?_)
  exact qt_vreturn rfl (Nat.le_of_ble_eq_true rfl) dX12_starts_25 E G
noncomputable def m_X12_sign (h : qa_M) : Option (Int32 × qa_M) :=
  if (h.1 119 20) ≤ (h.1 119 21) then (
   some ((-1 : Int32), h))
  else (
   qck (h.1 119 21) 400 (
   some (((h.1 139 (h.1 119 21).toNatClampNeg) &&& (255 : Int32)), h)))
set_option maxRecDepth 20000 in
theorem c_X12_sign {l : Launch} {g : qa_G} {d : Nat} (h : qa_M) {c : Int32} {h1 : qa_M} (E : m_X12_sign h = some (c, h1)) : qt_Met l g (yX12_sign, cX12_sign, 1, (some .int)) d 0 [.ref (g.1 + 119)] h (some (.int c)) h1 := by
  refine qt_Met.of (plainFor_of_name (by decide)) (Nat.le_of_ble_eq_true rfl) ?_
  have G : qg_i (some (.int c)) h1 ((c, h1)) := ⟨rfl, rfl⟩
  unfold m_X12_sign at E
  refine qt_aload_n 0 dX12_sign_0 rfl rfl ?_
  refine qt_getI (wl_119 h) fe_RX12_243 rfl dX12_sign_1 ?_
  refine qt_aload_n 0 dX12_sign_4 rfl rfl ?_
  refine qt_getI (wl_119 h) fe_RX12_215 rfl dX12_sign_5 ?_
  refine qt_icmp_ge 27 dX12_sign_8 (by decide) E (fun E => ?_) (fun E => ?_)
  · refine qt_iconst dX12_sign_27 ci_m1 ?_
    exact qt_ireturn rfl (Nat.le_of_ble_eq_true rfl) dX12_sign_28 E G
  · refine qt_aload_n 0 dX12_sign_11 rfl rfl ?_
    refine qt_getS 139 (wl_119 h) fe_RX12_71 rfl dX12_sign_12 ?_
    refine qt_aload_n 0 dX12_sign_15 rfl rfl ?_
    refine qt_getI (wl_119 h) fe_RX12_243 rfl dX12_sign_16 ?_
    refine qt_bald (wl_139 h) dX12_sign_19 E (fun E => ?_)
    refine qt_sipush dX12_sign_20 cs_255 ?_
    refine qt_iand dX12_sign_23 ?_
    refine qt_goto 28 dX12_sign_24 (by decide) ?_
    exact qt_ireturn rfl (Nat.le_of_ble_eq_true rfl) dX12_sign_28 E G
noncomputable def f_X12_blanks_b0 (h : qa_M) : Option ((qa_M) ⊕ qa_M) :=
  qbn (m_X12_sign h) (fun (c1 : Int32) (h1 : qa_M) =>
  if c1 = (32 : Int32) then (
   qbd (qw_I h1 119 21 ((h1.1 119 21) + (1 : Int32))) (fun h16 : qa_M =>
   some (.inl h16)))
  else (
   qup (some h1)))
set_option maxRecDepth 20000 in
theorem s_X12_blanks_b0 {l : Launch} {g : qa_G} {d : Nat} {rz : Option Value} {hz : qa_M} (h : qa_M) {z : ((qa_M) ⊕ qa_M)} (E : f_X12_blanks_b0 h = some z) (G : (Sum.elim (fun (sz : qa_M) => qt_At l g (yX12_blanks, cX12_blanks, 1, none) (d + 1) 0 0 0 [(0, .ref (g.1 + 119))] [] sz rz hz) (qg_v rz hz)) z) : qt_At l g (yX12_blanks, cX12_blanks, 1, none) (d + 1) 0 0 0 [(0, .ref (g.1 + 119))] [] h rz hz := by
  unfold f_X12_blanks_b0 at E
  refine qt_aload_n 0 dX12_blanks_0 rfl rfl ?_
  obtain ⟨c1, h1, e1, E⟩ := qbn_el E
  refine qt_callVi (b2 := 0) [] (c_X12_sign h e1) cv_RX12_246 (wl_119 h) rfl rfl rfl (Nat.le_of_ble_eq_true rfl) (Nat.le_of_ble_eq_true rfl) dX12_blanks_1 ?_
  refine qt_bipush dX12_blanks_4 cb_32 ?_
  refine qt_icmp_ne 22 dX12_blanks_6 (by decide) E (fun E => ?_) (fun E => ?_)
  · obtain ⟨z0_, E, G⟩ := qup_g E G
    exact qt_vreturn rfl (Nat.le_of_ble_eq_true rfl) dX12_blanks_22 E G
  · refine qt_aload_n 0 dX12_blanks_9 rfl rfl ?_
    refine qt_dup dX12_blanks_10 rfl ?_
    refine qt_getI (wl_119 h1) fe_RX12_243 rfl dX12_blanks_11 ?_
    refine qt_iconst dX12_blanks_14 ci_1 ?_
    refine qt_iadd dX12_blanks_15 ?_
    refine qt_putI (wl_119 h1) fd_RX12_243 rfl rfl rfl dX12_blanks_16 E (fun h16 E => ?_)
    refine qt_goto 0 dX12_blanks_19 (by decide) ?_
    cases E
    exact qt_sub _ [0] rfl (G)
noncomputable def f_X12_blanks_b0_loop (h : qa_M) : Option qa_M := qlp (fun sz : qa_M => f_X12_blanks_b0 sz) h
theorem s_X12_blanks_b0_loop {l : Launch} {g : qa_G} {d : Nat} {rz : Option Value} {hz : qa_M} (h : qa_M) {z : qa_M} (E : f_X12_blanks_b0_loop h = some z) (G : (qg_v rz hz) z) : qt_At l g (yX12_blanks, cX12_blanks, 1, none) (d + 1) 0 0 0 [(0, .ref (g.1 + 119))] [] h rz hz :=
  qlp_ind (fun sz : qa_M => qt_At l g (yX12_blanks, cX12_blanks, 1, none) (d + 1) 0 0 0 [(0, .ref (g.1 + 119))] [] sz rz hz) (fun sz E => s_X12_blanks_b0 sz E G) (fun sz sz2 E ih => s_X12_blanks_b0 sz E ih) h E
noncomputable def m_X12_blanks (h : qa_M) : Option qa_M :=
  f_X12_blanks_b0_loop h
set_option maxRecDepth 20000 in
theorem c_X12_blanks {l : Launch} {g : qa_G} {d : Nat} (h : qa_M) {h1 : qa_M} (E : m_X12_blanks h = some h1) : qt_Met l g (yX12_blanks, cX12_blanks, 1, none) (d + 1) 0 [.ref (g.1 + 119)] h none h1 := by
  refine qt_Met.of (plainFor_of_name (by decide)) (Nat.le_of_ble_eq_true rfl) ?_
  have G : qg_v none h1 (h1) := ⟨rfl, rfl⟩
  unfold m_X12_blanks at E
  exact qt_sub _ [0] rfl ((s_X12_blanks_b0_loop h E G))
noncomputable def m_X12_landWord (x0 : Int32) (h : qa_M) : Option (Nat × qa_M) :=
  if x0 = 0 then (
   some (5, h))
  else (
   if x0 = (1 : Int32) then (
    some (6, h))
   else (
    if x0 = (2 : Int32) then (
     some (7, h))
    else (
     if x0 = (3 : Int32) then (
      some (8, h))
     else (
      some (9, h)))))
set_option maxRecDepth 20000 in
theorem c_X12_landWord {l : Launch} {g : qa_G} {d : Nat} (x0 : Int32) (h : qa_M) {c : Nat} {h1 : qa_M} (E : m_X12_landWord x0 h = some (c, h1)) : qt_Met l g (yX12_landWord, cX12_landWord, 1, (some (.object "java/lang/String"))) d 0 [.int x0] h (some (.ref (g.2.2.2.1 c))) h1 := by
  refine qt_Met.of (plainFor_of_name (by decide)) (Nat.le_of_ble_eq_true rfl) ?_
  have G : qg_s g (some (.ref (g.2.2.2.1 c))) h1 ((c, h1)) := ⟨rfl, rfl⟩
  unfold m_X12_landWord at E
  refine qt_iload_n 0 dX12_landWord_0 rfl rfl ?_
  refine qt_if_ne 9 dX12_landWord_1 (by decide) E (fun E => ?_) (fun E => ?_)
  · refine qt_iload_n 0 dX12_landWord_9 rfl rfl ?_
    refine qt_iconst dX12_landWord_10 ci_1 ?_
    refine qt_icmp_ne 19 dX12_landWord_11 (by decide) E (fun E => ?_) (fun E => ?_)
    · refine qt_iload_n 0 dX12_landWord_19 rfl rfl ?_
      refine qt_iconst dX12_landWord_20 ci_2 ?_
      refine qt_icmp_ne 29 dX12_landWord_21 (by decide) E (fun E => ?_) (fun E => ?_)
      · refine qt_iload_n 0 dX12_landWord_29 rfl rfl ?_
        refine qt_iconst dX12_landWord_30 ci_3 ?_
        refine qt_icmp_ne 39 dX12_landWord_31 (by decide) E (fun E => ?_) (fun E => ?_)
        · refine qt_ldcS sr_RX12_239 dX12_landWord_39 ?_
          exact qt_sreturn rfl (Nat.le_of_ble_eq_true rfl) dX12_landWord_41 E G
        · refine qt_ldcS sr_RX12_231 dX12_landWord_34 ?_
          refine qt_goto 41 dX12_landWord_36 (by decide) ?_
          exact qt_sreturn rfl (Nat.le_of_ble_eq_true rfl) dX12_landWord_41 E G
      · refine qt_ldcS sr_RX12_229 dX12_landWord_24 ?_
        refine qt_goto 41 dX12_landWord_26 (by decide) ?_
        exact qt_sreturn rfl (Nat.le_of_ble_eq_true rfl) dX12_landWord_41 E G
    · refine qt_ldcS sr_RX12_237 dX12_landWord_14 ?_
      refine qt_goto 41 dX12_landWord_16 (by decide) ?_
      exact qt_sreturn rfl (Nat.le_of_ble_eq_true rfl) dX12_landWord_41 E G
  · refine qt_ldcS sr_RX12_235 dX12_landWord_4 ?_
    refine qt_goto 41 dX12_landWord_6 (by decide) ?_
    exact qt_sreturn rfl (Nat.le_of_ble_eq_true rfl) dX12_landWord_41 E G
noncomputable def f_X12_stood_b102 (k1 : Nat) (x4 : Int32) (s0 : Int32) (h : qa_M) : Option ((Int32 × Int32 × qa_M) ⊕ (Int32 × qa_M)) :=
  qbd s0 (fun v102 : Int32 =>
  qbd (x4 + (1 : Int32)) (fun v103 : Int32 =>
  some (.inl (v102, v103, h))))
set_option maxRecDepth 20000 in
theorem s_X12_stood_b102 {l : Launch} {g : qa_G} {d : Nat} {rz : Option Value} {hz : qa_M} (k1 : Nat) (hk1 : k1 < 19) (x4 : Int32) (s0 : Int32) (h : qa_M) {z : ((Int32 × Int32 × qa_M) ⊕ (Int32 × qa_M))} (E : f_X12_stood_b102 k1 x4 s0 h = some z) (G : (Sum.elim (fun (sz : Int32 × Int32 × qa_M) => qt_At l g (yX12_stood, cX12_stood, 5, (some .boolean)) (d + 4) 0 0 63 [(0, .ref (g.1 + 119)), (1, .ref (g.2.2.2.1 k1)), (3, .int sz.1), (4, .int sz.2.1)] [] sz.2.2 rz hz) (qg_i rz hz)) z) : qt_At l g (yX12_stood, cX12_stood, 5, (some .boolean)) (d + 4) 0 0 102 [(0, .ref (g.1 + 119)), (1, .ref (g.2.2.2.1 k1)), (4, .int x4)] [.int s0] h rz hz := by
  unfold f_X12_stood_b102 at E
  refine qt_istore_n (fun v102 => [(3, .int v102), (0, .ref (g.1 + 119)), (1, .ref (g.2.2.2.1 k1)), (4, .int x4)]) dX12_stood_102 rfl (Nat.le_of_ble_eq_true rfl) (fun _ => rfl) E (fun v102 E => ?_)
  refine qt_iinc 3 (fun v103 => [(4, .int v103), (3, .int v102), (0, .ref (g.1 + 119)), (1, .ref (g.2.2.2.1 k1))]) dX12_stood_103 rfl ci_1 (Nat.le_of_ble_eq_true rfl) (fun _ => rfl) E (fun v103 E => ?_)
  refine qt_goto 63 dX12_stood_106 (by decide) ?_
  cases E
  exact qt_sub _ [2, 3, 1, 0] rfl (G)
noncomputable def f_X12_stood_b63 (k1 : Nat) (x3 : Int32) (x4 : Int32) (h : qa_M) : Option ((Int32 × Int32 × qa_M) ⊕ (Int32 × qa_M)) :=
  if (nI (qa_len k1)) ≤ x4 then (
   qpr (x3 = 0 ∨ x3 = 1) (
   qup (some (x3, h))))
  else (
   if x3 = 0 then (
    qpr (x3 = 0 ∨ x3 = 1) (
    qup (some (x3, h))))
   else (
    qck ((h.1 119 21) + x4) 400 (
    qck x4 (qa_len k1) (
    if (h.1 139 ((h.1 119 21) + x4).toNatClampNeg) = (qa_ch k1 x4.toNatClampNeg) then (
     f_X12_stood_b102 k1 x4 (1 : Int32) h)
    else (
     f_X12_stood_b102 k1 x4 (0 : Int32) h)))))
set_option maxRecDepth 20000 in
theorem s_X12_stood_b63 {l : Launch} {g : qa_G} {d : Nat} {rz : Option Value} {hz : qa_M} (k1 : Nat) (hk1 : k1 < 19) (x3 : Int32) (x4 : Int32) (h : qa_M) {z : ((Int32 × Int32 × qa_M) ⊕ (Int32 × qa_M))} (E : f_X12_stood_b63 k1 x3 x4 h = some z) (G : (Sum.elim (fun (sz : Int32 × Int32 × qa_M) => qt_At l g (yX12_stood, cX12_stood, 5, (some .boolean)) (d + 4) 0 0 63 [(0, .ref (g.1 + 119)), (1, .ref (g.2.2.2.1 k1)), (3, .int sz.1), (4, .int sz.2.1)] [] sz.2.2 rz hz) (qg_i rz hz)) z) : qt_At l g (yX12_stood, cX12_stood, 5, (some .boolean)) (d + 4) 0 0 63 [(0, .ref (g.1 + 119)), (1, .ref (g.2.2.2.1 k1)), (3, .int x3), (4, .int x4)] [] h rz hz := by
  unfold f_X12_stood_b63 at E
  refine qt_iload 3 dX12_stood_63 rfl ?_
  refine qt_aload_n 1 dX12_stood_65 rfl rfl ?_
  refine qt_strlen hk1 tb_1625 dX12_stood_66 (Nat.le_of_ble_eq_true rfl) ?_
  refine qt_icmp_ge 109 dX12_stood_69 (by decide) E (fun E => ?_) (fun E => ?_)
  · refine qt_iload_n 2 dX12_stood_109 rfl rfl ?_
    obtain ⟨z110, E⟩ := qpr_el E
    obtain ⟨z0_, E, G⟩ := qup_g E G
    exact qt_zreturn rfl z110 (Nat.le_of_ble_eq_true rfl) dX12_stood_110 E G
  · refine qt_iload_n 2 dX12_stood_72 rfl rfl ?_
    refine qt_if_eq 109 dX12_stood_73 (by decide) E (fun E => ?_) (fun E => ?_)
    · refine qt_iload_n 2 dX12_stood_109 rfl rfl ?_
      obtain ⟨z110, E⟩ := qpr_el E
      obtain ⟨z0_, E, G⟩ := qup_g E G
      exact qt_zreturn rfl z110 (Nat.le_of_ble_eq_true rfl) dX12_stood_110 E G
    · refine qt_aload_n 0 dX12_stood_76 rfl rfl ?_
      refine qt_getS 139 (wl_119 h) fe_RX12_71 rfl dX12_stood_77 ?_
      refine qt_aload_n 0 dX12_stood_80 rfl rfl ?_
      refine qt_getI (wl_119 h) fe_RX12_243 rfl dX12_stood_81 ?_
      refine qt_iload 3 dX12_stood_84 rfl ?_
      refine qt_iadd dX12_stood_86 ?_
      refine qt_bald (wl_139 h) dX12_stood_87 E (fun E => ?_)
      refine qt_aload_n 1 dX12_stood_88 rfl rfl ?_
      refine qt_iload 3 dX12_stood_89 rfl ?_
      refine qt_charAt hk1 tb_1626 dX12_stood_91 (Nat.le_of_ble_eq_true rfl) E (fun E => ?_)
      refine qt_icmp_ne 101 dX12_stood_94 (by decide) E (fun E => ?_) (fun E => ?_)
      · refine qt_iconst dX12_stood_101 ci_0 ?_
        exact qt_sub _ [0, 1, 3] rfl ((s_X12_stood_b102 k1 hk1 x4 (0 : Int32) h E G))
      · refine qt_iconst dX12_stood_97 ci_1 ?_
        refine qt_goto 102 dX12_stood_98 (by decide) ?_
        exact qt_sub _ [0, 1, 3] rfl ((s_X12_stood_b102 k1 hk1 x4 (1 : Int32) h E G))
noncomputable def f_X12_stood_b63_loop (k1 : Nat) (x3 : Int32) (x4 : Int32) (h : qa_M) : Option (Int32 × qa_M) := qlp (fun sz : Int32 × Int32 × qa_M => f_X12_stood_b63 k1 sz.1 sz.2.1 sz.2.2) (x3, x4, h)
theorem s_X12_stood_b63_loop {l : Launch} {g : qa_G} {d : Nat} {rz : Option Value} {hz : qa_M} (k1 : Nat) (hk1 : k1 < 19) (x3 : Int32) (x4 : Int32) (h : qa_M) {z : (Int32 × qa_M)} (E : f_X12_stood_b63_loop k1 x3 x4 h = some z) (G : (qg_i rz hz) z) : qt_At l g (yX12_stood, cX12_stood, 5, (some .boolean)) (d + 4) 0 0 63 [(0, .ref (g.1 + 119)), (1, .ref (g.2.2.2.1 k1)), (3, .int x3), (4, .int x4)] [] h rz hz :=
  qlp_ind (fun sz : Int32 × Int32 × qa_M => qt_At l g (yX12_stood, cX12_stood, 5, (some .boolean)) (d + 4) 0 0 63 [(0, .ref (g.1 + 119)), (1, .ref (g.2.2.2.1 k1)), (3, .int sz.1), (4, .int sz.2.1)] [] sz.2.2 rz hz) (fun sz E => s_X12_stood_b63 k1 hk1 sz.1 sz.2.1 sz.2.2 E G) (fun sz sz2 E ih => s_X12_stood_b63 k1 hk1 sz.1 sz.2.1 sz.2.2 E ih) (x3, x4, h) E
noncomputable def f_X12_stood_b59 (k1 : Nat) (s0 : Int32) (h : qa_M) : Option (Int32 × qa_M) :=
  qbd s0 (fun v59 : Int32 =>
  qbd (0 : Int32) (fun v61 : Int32 =>
  f_X12_stood_b63_loop k1 v59 v61 h))
set_option maxRecDepth 20000 in
theorem s_X12_stood_b59 {l : Launch} {g : qa_G} {d : Nat} {rz : Option Value} {hz : qa_M} (k1 : Nat) (hk1 : k1 < 19) (s0 : Int32) (h : qa_M) {z : (Int32 × qa_M)} (E : f_X12_stood_b59 k1 s0 h = some z) (G : (qg_i rz hz) z) : qt_At l g (yX12_stood, cX12_stood, 5, (some .boolean)) (d + 4) 0 0 59 [(0, .ref (g.1 + 119)), (1, .ref (g.2.2.2.1 k1))] [.int s0] h rz hz := by
  unfold f_X12_stood_b59 at E
  refine qt_istore_n (fun v59 => [(3, .int v59), (0, .ref (g.1 + 119)), (1, .ref (g.2.2.2.1 k1))]) dX12_stood_59 rfl (Nat.le_of_ble_eq_true rfl) (fun _ => rfl) E (fun v59 E => ?_)
  refine qt_iconst dX12_stood_60 ci_0 ?_
  refine qt_istore (fun v61 => [(4, .int v61), (3, .int v59), (0, .ref (g.1 + 119)), (1, .ref (g.2.2.2.1 k1))]) dX12_stood_61 (Nat.le_of_ble_eq_true rfl) (fun _ => rfl) E (fun v61 E => ?_)
  exact qt_sub _ [2, 3, 1, 0] rfl ((s_X12_stood_b63_loop k1 hk1 v59 v61 h E G))
noncomputable def f_X12_stood_b41 (k1 : Nat) (x2 : Int32) (h : qa_M) : Option (Int32 × qa_M) :=
  if (x2 - (h.1 119 21)) = (nI (qa_len k1)) then (
   f_X12_stood_b59 k1 (1 : Int32) h)
  else (
   f_X12_stood_b59 k1 (0 : Int32) h)
set_option maxRecDepth 20000 in
theorem s_X12_stood_b41 {l : Launch} {g : qa_G} {d : Nat} {rz : Option Value} {hz : qa_M} (k1 : Nat) (hk1 : k1 < 19) (x2 : Int32) (h : qa_M) {z : (Int32 × qa_M)} (E : f_X12_stood_b41 k1 x2 h = some z) (G : (qg_i rz hz) z) : qt_At l g (yX12_stood, cX12_stood, 5, (some .boolean)) (d + 4) 0 0 41 [(0, .ref (g.1 + 119)), (1, .ref (g.2.2.2.1 k1)), (2, .int x2)] [] h rz hz := by
  unfold f_X12_stood_b41 at E
  refine qt_iload_n 2 dX12_stood_41 rfl rfl ?_
  refine qt_aload_n 0 dX12_stood_42 rfl rfl ?_
  refine qt_getI (wl_119 h) fe_RX12_243 rfl dX12_stood_43 ?_
  refine qt_isub dX12_stood_46 ?_
  refine qt_aload_n 1 dX12_stood_47 rfl rfl ?_
  refine qt_strlen hk1 tb_1625 dX12_stood_48 (Nat.le_of_ble_eq_true rfl) ?_
  refine qt_icmp_ne 58 dX12_stood_51 (by decide) E (fun E => ?_) (fun E => ?_)
  · refine qt_iconst dX12_stood_58 ci_0 ?_
    exact qt_sub _ [0, 1] rfl ((s_X12_stood_b59 k1 hk1 (0 : Int32) h E G))
  · refine qt_iconst dX12_stood_54 ci_1 ?_
    refine qt_goto 59 dX12_stood_55 (by decide) ?_
    exact qt_sub _ [0, 1] rfl ((s_X12_stood_b59 k1 hk1 (1 : Int32) h E G))
noncomputable def f_X12_stood_b5 (k1 : Nat) (x2 : Int32) (h : qa_M) : Option ((Int32 × qa_M) ⊕ (Int32 × qa_M)) :=
  if (h.1 119 20) ≤ x2 then (
   qup (f_X12_stood_b41 k1 x2 h))
  else (
   qck x2 400 (
   if (h.1 139 x2.toNatClampNeg) < (97 : Int32) then (
    qup (f_X12_stood_b41 k1 x2 h))
   else (
    qck x2 400 (
    if (122 : Int32) < (h.1 139 x2.toNatClampNeg) then (
     qup (f_X12_stood_b41 k1 x2 h))
    else (
     qbd (x2 + (1 : Int32)) (fun v35 : Int32 =>
     some (.inl (v35, h))))))))
set_option maxRecDepth 20000 in
theorem s_X12_stood_b5 {l : Launch} {g : qa_G} {d : Nat} {rz : Option Value} {hz : qa_M} (k1 : Nat) (hk1 : k1 < 19) (x2 : Int32) (h : qa_M) {z : ((Int32 × qa_M) ⊕ (Int32 × qa_M))} (E : f_X12_stood_b5 k1 x2 h = some z) (G : (Sum.elim (fun (sz : Int32 × qa_M) => qt_At l g (yX12_stood, cX12_stood, 5, (some .boolean)) (d + 4) 0 0 5 [(0, .ref (g.1 + 119)), (1, .ref (g.2.2.2.1 k1)), (2, .int sz.1)] [] sz.2 rz hz) (qg_i rz hz)) z) : qt_At l g (yX12_stood, cX12_stood, 5, (some .boolean)) (d + 4) 0 0 5 [(0, .ref (g.1 + 119)), (1, .ref (g.2.2.2.1 k1)), (2, .int x2)] [] h rz hz := by
  unfold f_X12_stood_b5 at E
  refine qt_iload_n 2 dX12_stood_5 rfl rfl ?_
  refine qt_aload_n 0 dX12_stood_6 rfl rfl ?_
  refine qt_getI (wl_119 h) fe_RX12_215 rfl dX12_stood_7 ?_
  refine qt_icmp_ge 41 dX12_stood_10 (by decide) E (fun E => ?_) (fun E => ?_)
  · obtain ⟨z0_, E, G⟩ := qup_g E G
    exact qt_sub _ [0, 1, 2] rfl ((s_X12_stood_b41 k1 hk1 x2 h E G))
  · refine qt_aload_n 0 dX12_stood_13 rfl rfl ?_
    refine qt_getS 139 (wl_119 h) fe_RX12_71 rfl dX12_stood_14 ?_
    refine qt_iload_n 2 dX12_stood_17 rfl rfl ?_
    refine qt_bald (wl_139 h) dX12_stood_18 E (fun E => ?_)
    refine qt_bipush dX12_stood_19 cb_97 ?_
    refine qt_icmp_lt 41 dX12_stood_21 (by decide) E (fun E => ?_) (fun E => ?_)
    · obtain ⟨z0_, E, G⟩ := qup_g E G
      exact qt_sub _ [0, 1, 2] rfl ((s_X12_stood_b41 k1 hk1 x2 h E G))
    · refine qt_aload_n 0 dX12_stood_24 rfl rfl ?_
      refine qt_getS 139 (wl_119 h) fe_RX12_71 rfl dX12_stood_25 ?_
      refine qt_iload_n 2 dX12_stood_28 rfl rfl ?_
      refine qt_bald (wl_139 h) dX12_stood_29 E (fun E => ?_)
      refine qt_bipush dX12_stood_30 cb_122 ?_
      refine qt_icmp_gt 41 dX12_stood_32 (by decide) E (fun E => ?_) (fun E => ?_)
      · obtain ⟨z0_, E, G⟩ := qup_g E G
        exact qt_sub _ [0, 1, 2] rfl ((s_X12_stood_b41 k1 hk1 x2 h E G))
      · refine qt_iinc 2 (fun v35 => [(2, .int v35), (0, .ref (g.1 + 119)), (1, .ref (g.2.2.2.1 k1))]) dX12_stood_35 rfl ci_1 (Nat.le_of_ble_eq_true rfl) (fun _ => rfl) E (fun v35 E => ?_)
        refine qt_goto 5 dX12_stood_38 (by decide) ?_
        cases E
        exact qt_sub _ [1, 2, 0] rfl (G)
noncomputable def f_X12_stood_b5_loop (k1 : Nat) (x2 : Int32) (h : qa_M) : Option (Int32 × qa_M) := qlp (fun sz : Int32 × qa_M => f_X12_stood_b5 k1 sz.1 sz.2) (x2, h)
theorem s_X12_stood_b5_loop {l : Launch} {g : qa_G} {d : Nat} {rz : Option Value} {hz : qa_M} (k1 : Nat) (hk1 : k1 < 19) (x2 : Int32) (h : qa_M) {z : (Int32 × qa_M)} (E : f_X12_stood_b5_loop k1 x2 h = some z) (G : (qg_i rz hz) z) : qt_At l g (yX12_stood, cX12_stood, 5, (some .boolean)) (d + 4) 0 0 5 [(0, .ref (g.1 + 119)), (1, .ref (g.2.2.2.1 k1)), (2, .int x2)] [] h rz hz :=
  qlp_ind (fun sz : Int32 × qa_M => qt_At l g (yX12_stood, cX12_stood, 5, (some .boolean)) (d + 4) 0 0 5 [(0, .ref (g.1 + 119)), (1, .ref (g.2.2.2.1 k1)), (2, .int sz.1)] [] sz.2 rz hz) (fun sz E => s_X12_stood_b5 k1 hk1 sz.1 sz.2 E G) (fun sz sz2 E ih => s_X12_stood_b5 k1 hk1 sz.1 sz.2 E ih) (x2, h) E
noncomputable def m_X12_stood (k1 : Nat) (h : qa_M) : Option (Int32 × qa_M) :=
  qbd (h.1 119 21) (fun v4 : Int32 =>
  f_X12_stood_b5_loop k1 v4 h)
set_option maxRecDepth 20000 in
theorem c_X12_stood {l : Launch} {g : qa_G} {d : Nat} (k1 : Nat) (h : qa_M) (hk1 : k1 < 19) {c : Int32} {h1 : qa_M} (E : m_X12_stood k1 h = some (c, h1)) : qt_Met l g (yX12_stood, cX12_stood, 5, (some .boolean)) (d + 4) 0 [.ref (g.1 + 119), .ref (g.2.2.2.1 k1)] h (some (.int c)) h1 := by
  refine qt_Met.of (plainFor_of_name (by decide)) (Nat.le_of_ble_eq_true rfl) ?_
  have G : qg_i (some (.int c)) h1 ((c, h1)) := ⟨rfl, rfl⟩
  unfold m_X12_stood at E
  refine qt_aload_n 0 dX12_stood_0 rfl rfl ?_
  refine qt_getI (wl_119 h) fe_RX12_243 rfl dX12_stood_1 ?_
  refine qt_istore_n (fun v4 => [(2, .int v4), (0, .ref (g.1 + 119)), (1, .ref (g.2.2.2.1 k1))]) dX12_stood_4 rfl (Nat.le_of_ble_eq_true rfl) (fun _ => rfl) E (fun v4 E => ?_)
  exact qt_sub _ [1, 2, 0] rfl ((s_X12_stood_b5_loop k1 hk1 v4 h E G))
noncomputable def f_X12_fails_b23 (s1 : Int32) (h : qa_M) : Option qa_M :=
  qbd (qw_I h 119 22 s1) (fun h23 : qa_M =>
  some h23)
set_option maxRecDepth 20000 in
theorem s_X12_fails_b23 {l : Launch} {g : qa_G} {d : Nat} {rz : Option Value} {hz : qa_M} (s1 : Int32) (h : qa_M) {z : qa_M} (E : f_X12_fails_b23 s1 h = some z) (G : (qg_v rz hz) z) : qt_At l g (yX12_fails, cX12_fails, 3, none) d 0 0 23 [] [.int s1, .ref (g.1 + 119)] h rz hz := by
  unfold f_X12_fails_b23 at E
  refine qt_putI (wl_119 h) fd_RX12_240 rfl rfl rfl dX12_fails_23 E (fun h23 E => ?_)
  exact qt_vreturn rfl (Nat.le_of_ble_eq_true rfl) dX12_fails_26 E G
noncomputable def m_X12_fails (x1 : Int32) (x2 : Int32) (h : qa_M) : Option qa_M :=
  if (h.1 119 22) = 0 then (
   f_X12_fails_b23 (((1 : Int32) + ((8 : Int32) * x2)) + x1) h)
  else (
   f_X12_fails_b23 (h.1 119 22) h)
set_option maxRecDepth 20000 in
theorem c_X12_fails {l : Launch} {g : qa_G} {d : Nat} (x1 : Int32) (x2 : Int32) (h : qa_M) {h1 : qa_M} (E : m_X12_fails x1 x2 h = some h1) : qt_Met l g (yX12_fails, cX12_fails, 3, none) d 0 [.ref (g.1 + 119), .int x1, .int x2] h none h1 := by
  refine qt_Met.of (plainFor_of_name (by decide)) (Nat.le_of_ble_eq_true rfl) ?_
  have G : qg_v none h1 (h1) := ⟨rfl, rfl⟩
  unfold m_X12_fails at E
  refine qt_aload_n 0 dX12_fails_0 rfl rfl ?_
  refine qt_aload_n 0 dX12_fails_1 rfl rfl ?_
  refine qt_getI (wl_119 h) fe_RX12_240 rfl dX12_fails_2 ?_
  refine qt_if_ne 19 dX12_fails_5 (by decide) E (fun E => ?_) (fun E => ?_)
  · refine qt_aload_n 0 dX12_fails_19 rfl rfl ?_
    refine qt_getI (wl_119 h) fe_RX12_240 rfl dX12_fails_20 ?_
    exact qt_sub _ [] rfl ((s_X12_fails_b23 (h.1 119 22) h E G))
  · refine qt_iconst dX12_fails_8 ci_1 ?_
    refine qt_bipush dX12_fails_9 cb_8 ?_
    refine qt_iload_n 2 dX12_fails_11 rfl rfl ?_
    refine qt_imul dX12_fails_12 ?_
    refine qt_iadd dX12_fails_13 ?_
    refine qt_iload_n 1 dX12_fails_14 rfl rfl ?_
    refine qt_iadd dX12_fails_15 ?_
    refine qt_goto 23 dX12_fails_16 (by decide) ?_
    exact qt_sub _ [] rfl ((s_X12_fails_b23 (((1 : Int32) + ((8 : Int32) * x2)) + x1) h E G))
noncomputable def f_X12_isFull_b76 (h : qa_M) : Option (Int32 × qa_M) :=
  some ((1 : Int32), h)
set_option maxRecDepth 20000 in
theorem s_X12_isFull_b76 {l : Launch} {g : qa_G} {d : Nat} {rz : Option Value} {hz : qa_M} (h : qa_M) {z : (Int32 × qa_M)} (E : f_X12_isFull_b76 h = some z) (G : (qg_i rz hz) z) : qt_At l g (yX12_isFull, cX12_isFull, 4, (some .boolean)) d 0 0 76 [] [] h rz hz := by
  unfold f_X12_isFull_b76 at E
  refine qt_iconst dX12_isFull_76 ci_1 ?_
  refine qt_goto 81 dX12_isFull_77 (by decide) ?_
  exact qt_zreturn rfl (Or.inr rfl) (Nat.le_of_ble_eq_true rfl) dX12_isFull_81 E G
noncomputable def f_X12_isFull_b61 (x1 : Int32) (h : qa_M) : Option (Int32 × qa_M) :=
  if x1 = (4 : Int32) then (
   qck (4 : Int32) 5 (
   if (h.1 132 (4 : Int32).toNatClampNeg) = (4 : Int32) then (
    f_X12_isFull_b76 h)
   else (
    some ((0 : Int32), h))))
  else (
   some ((0 : Int32), h))
set_option maxRecDepth 20000 in
theorem s_X12_isFull_b61 {l : Launch} {g : qa_G} {d : Nat} {rz : Option Value} {hz : qa_M} (x1 : Int32) (h : qa_M) {z : (Int32 × qa_M)} (E : f_X12_isFull_b61 x1 h = some z) (G : (qg_i rz hz) z) : qt_At l g (yX12_isFull, cX12_isFull, 4, (some .boolean)) d 0 0 61 [(0, .ref (g.1 + 119)), (1, .int x1)] [] h rz hz := by
  unfold f_X12_isFull_b61 at E
  refine qt_iload_n 1 dX12_isFull_61 rfl rfl ?_
  refine qt_iconst dX12_isFull_62 ci_4 ?_
  refine qt_icmp_ne 80 dX12_isFull_63 (by decide) E (fun E => ?_) (fun E => ?_)
  · refine qt_iconst dX12_isFull_80 ci_0 ?_
    exact qt_zreturn rfl (Or.inl rfl) (Nat.le_of_ble_eq_true rfl) dX12_isFull_81 E G
  · refine qt_aload_n 0 dX12_isFull_66 rfl rfl ?_
    refine qt_getS 132 (wl_119 h) fe_RX12_46 rfl dX12_isFull_67 ?_
    refine qt_iconst dX12_isFull_70 ci_4 ?_
    refine qt_iald (wl_132 h) dX12_isFull_71 E (fun E => ?_)
    refine qt_iconst dX12_isFull_72 ci_4 ?_
    refine qt_icmp_ne 80 dX12_isFull_73 (by decide) E (fun E => ?_) (fun E => ?_)
    · refine qt_iconst dX12_isFull_80 ci_0 ?_
      exact qt_zreturn rfl (Or.inl rfl) (Nat.le_of_ble_eq_true rfl) dX12_isFull_81 E G
    · exact qt_sub _ [] rfl ((s_X12_isFull_b76 h E G))
noncomputable def f_X12_isFull_b45 (x1 : Int32) (h : qa_M) : Option (Int32 × qa_M) :=
  if x1 = (3 : Int32) then (
   qck (3 : Int32) 5 (
   if (h.1 132 (3 : Int32).toNatClampNeg) = (6 : Int32) then (
    f_X12_isFull_b76 h)
   else (
    f_X12_isFull_b61 x1 h)))
  else (
   f_X12_isFull_b61 x1 h)
set_option maxRecDepth 20000 in
theorem s_X12_isFull_b45 {l : Launch} {g : qa_G} {d : Nat} {rz : Option Value} {hz : qa_M} (x1 : Int32) (h : qa_M) {z : (Int32 × qa_M)} (E : f_X12_isFull_b45 x1 h = some z) (G : (qg_i rz hz) z) : qt_At l g (yX12_isFull, cX12_isFull, 4, (some .boolean)) d 0 0 45 [(0, .ref (g.1 + 119)), (1, .int x1)] [] h rz hz := by
  unfold f_X12_isFull_b45 at E
  refine qt_iload_n 1 dX12_isFull_45 rfl rfl ?_
  refine qt_iconst dX12_isFull_46 ci_3 ?_
  refine qt_icmp_ne 61 dX12_isFull_47 (by decide) E (fun E => ?_) (fun E => ?_)
  · exact qt_sub _ [0, 1] rfl ((s_X12_isFull_b61 x1 h E G))
  · refine qt_aload_n 0 dX12_isFull_50 rfl rfl ?_
    refine qt_getS 132 (wl_119 h) fe_RX12_46 rfl dX12_isFull_51 ?_
    refine qt_iconst dX12_isFull_54 ci_3 ?_
    refine qt_iald (wl_132 h) dX12_isFull_55 E (fun E => ?_)
    refine qt_bipush dX12_isFull_56 cb_6 ?_
    refine qt_icmp_eq 76 dX12_isFull_58 (by decide) E (fun E => ?_) (fun E => ?_)
    · exact qt_sub _ [] rfl ((s_X12_isFull_b76 h E G))
    · exact qt_sub _ [0, 1] rfl ((s_X12_isFull_b61 x1 h E G))
noncomputable def f_X12_isFull_b25 (x1 : Int32) (x3 : Int32) (s0 : Int32) (h : qa_M) : Option (Int32 × qa_M) :=
  if s0 = x3 then (
   if x1 = (2 : Int32) then (
    qck (2 : Int32) 5 (
    if (h.1 132 (2 : Int32).toNatClampNeg) = (8 : Int32) then (
     f_X12_isFull_b76 h)
    else (
     f_X12_isFull_b45 x1 h)))
   else (
    f_X12_isFull_b45 x1 h))
  else (
   f_X12_isFull_b76 h)
set_option maxRecDepth 20000 in
theorem s_X12_isFull_b25 {l : Launch} {g : qa_G} {d : Nat} {rz : Option Value} {hz : qa_M} (x1 : Int32) (x3 : Int32) (s0 : Int32) (h : qa_M) {z : (Int32 × qa_M)} (E : f_X12_isFull_b25 x1 x3 s0 h = some z) (G : (qg_i rz hz) z) : qt_At l g (yX12_isFull, cX12_isFull, 4, (some .boolean)) d 0 0 25 [(0, .ref (g.1 + 119)), (1, .int x1), (3, .int x3)] [.int s0] h rz hz := by
  unfold f_X12_isFull_b25 at E
  refine qt_iload_n 2 dX12_isFull_25 rfl rfl ?_
  refine qt_icmp_ne 76 dX12_isFull_26 (by decide) E (fun E => ?_) (fun E => ?_)
  · exact qt_sub _ [] rfl ((s_X12_isFull_b76 h E G))
  · refine qt_iload_n 1 dX12_isFull_29 rfl rfl ?_
    refine qt_iconst dX12_isFull_30 ci_2 ?_
    refine qt_icmp_ne 45 dX12_isFull_31 (by decide) E (fun E => ?_) (fun E => ?_)
    · exact qt_sub _ [0, 1] rfl ((s_X12_isFull_b45 x1 h E G))
    · refine qt_aload_n 0 dX12_isFull_34 rfl rfl ?_
      refine qt_getS 132 (wl_119 h) fe_RX12_46 rfl dX12_isFull_35 ?_
      refine qt_iconst dX12_isFull_38 ci_2 ?_
      refine qt_iald (wl_132 h) dX12_isFull_39 E (fun E => ?_)
      refine qt_bipush dX12_isFull_40 cb_8 ?_
      refine qt_icmp_eq 76 dX12_isFull_42 (by decide) E (fun E => ?_) (fun E => ?_)
      · exact qt_sub _ [] rfl ((s_X12_isFull_b76 h E G))
      · exact qt_sub _ [0, 1] rfl ((s_X12_isFull_b45 x1 h E G))
noncomputable def f_X12_isFull_b9 (x1 : Int32) (x2 : Int32) (s0 : Int32) (h : qa_M) : Option (Int32 × qa_M) :=
  qbd s0 (fun v9 : Int32 =>
  if x2 = (24 : Int32) then (
   f_X12_isFull_b76 h)
  else (
   if x1 = 0 then (
    f_X12_isFull_b25 x1 v9 (1 : Int32) h)
   else (
    f_X12_isFull_b25 x1 v9 (0 : Int32) h)))
set_option maxRecDepth 20000 in
theorem s_X12_isFull_b9 {l : Launch} {g : qa_G} {d : Nat} {rz : Option Value} {hz : qa_M} (x1 : Int32) (x2 : Int32) (s0 : Int32) (h : qa_M) {z : (Int32 × qa_M)} (E : f_X12_isFull_b9 x1 x2 s0 h = some z) (G : (qg_i rz hz) z) : qt_At l g (yX12_isFull, cX12_isFull, 4, (some .boolean)) d 0 0 9 [(0, .ref (g.1 + 119)), (1, .int x1), (2, .int x2)] [.int s0] h rz hz := by
  unfold f_X12_isFull_b9 at E
  refine qt_istore_n (fun v9 => [(3, .int v9), (0, .ref (g.1 + 119)), (1, .int x1), (2, .int x2)]) dX12_isFull_9 rfl (Nat.le_of_ble_eq_true rfl) (fun _ => rfl) E (fun v9 E => ?_)
  refine qt_iload_n 3 dX12_isFull_10 rfl rfl ?_
  refine qt_bipush dX12_isFull_11 cb_24 ?_
  refine qt_icmp_eq 76 dX12_isFull_13 (by decide) E (fun E => ?_) (fun E => ?_)
  · exact qt_sub _ [] rfl ((s_X12_isFull_b76 h E G))
  · refine qt_iload_n 2 dX12_isFull_16 rfl rfl ?_
    refine qt_if_ne 24 dX12_isFull_17 (by decide) E (fun E => ?_) (fun E => ?_)
    · refine qt_iconst dX12_isFull_24 ci_0 ?_
      exact qt_sub _ [1, 2, 0] rfl ((s_X12_isFull_b25 x1 v9 (0 : Int32) h E G))
    · refine qt_iconst dX12_isFull_20 ci_1 ?_
      refine qt_goto 25 dX12_isFull_21 (by decide) ?_
      exact qt_sub _ [1, 2, 0] rfl ((s_X12_isFull_b25 x1 v9 (1 : Int32) h E G))
noncomputable def m_X12_isFull (x1 : Int32) (x2 : Int32) (h : qa_M) : Option (Int32 × qa_M) :=
  if x2 = 0 then (
   f_X12_isFull_b9 x1 x2 (1 : Int32) h)
  else (
   f_X12_isFull_b9 x1 x2 (0 : Int32) h)
set_option maxRecDepth 20000 in
theorem c_X12_isFull {l : Launch} {g : qa_G} {d : Nat} (x1 : Int32) (x2 : Int32) (h : qa_M) {c : Int32} {h1 : qa_M} (E : m_X12_isFull x1 x2 h = some (c, h1)) : qt_Met l g (yX12_isFull, cX12_isFull, 4, (some .boolean)) d 0 [.ref (g.1 + 119), .int x1, .int x2] h (some (.int c)) h1 := by
  refine qt_Met.of (plainFor_of_name (by decide)) (Nat.le_of_ble_eq_true rfl) ?_
  have G : qg_i (some (.int c)) h1 ((c, h1)) := ⟨rfl, rfl⟩
  unfold m_X12_isFull at E
  refine qt_iload_n 2 dX12_isFull_0 rfl rfl ?_
  refine qt_if_ne 8 dX12_isFull_1 (by decide) E (fun E => ?_) (fun E => ?_)
  · refine qt_iconst dX12_isFull_8 ci_0 ?_
    exact qt_sub _ [0, 1, 2] rfl ((s_X12_isFull_b9 x1 x2 (0 : Int32) h E G))
  · refine qt_iconst dX12_isFull_4 ci_1 ?_
    refine qt_goto 9 dX12_isFull_5 (by decide) ?_
    exact qt_sub _ [0, 1, 2] rfl ((s_X12_isFull_b9 x1 x2 (1 : Int32) h E G))
noncomputable def m_X12_in (x0 : Int64) (x2 : Int64) (x4 : Int64) (h : qa_M) : Option (Int32 × qa_M) :=
  if x0 < x2 then (
   some ((0 : Int32), h))
  else (
   if x4 < x0 then (
    some ((0 : Int32), h))
   else (
    some ((1 : Int32), h)))
set_option maxRecDepth 20000 in
theorem c_X12_in {l : Launch} {g : qa_G} {d : Nat} (x0 : Int64) (x2 : Int64) (x4 : Int64) (h : qa_M) {c : Int32} {h1 : qa_M} (E : m_X12_in x0 x2 x4 h = some (c, h1)) : qt_Met l g (yX12_in, cX12_in, 6, (some .boolean)) d 0 [.long x0, .long x2, .long x4] h (some (.int c)) h1 := by
  refine qt_Met.of (plainFor_of_name (by decide)) (Nat.le_of_ble_eq_true rfl) ?_
  have G : qg_i (some (.int c)) h1 ((c, h1)) := ⟨rfl, rfl⟩
  unfold m_X12_in at E
  refine qt_lload_n 0 dX12_in_0 rfl rfl ?_
  refine qt_lload_n 1 dX12_in_1 rfl rfl ?_
  refine qt_lc_lt 17 dX12_in_2 dX12_in_3 (by decide) E (fun E => ?_) (fun E => ?_)
  · refine qt_iconst dX12_in_17 ci_0 ?_
    exact qt_zreturn rfl (Or.inl rfl) (Nat.le_of_ble_eq_true rfl) dX12_in_18 E G
  · refine qt_lload_n 0 dX12_in_6 rfl rfl ?_
    refine qt_lload 2 dX12_in_7 rfl ?_
    refine qt_lc_gt 17 dX12_in_9 dX12_in_10 (by decide) E (fun E => ?_) (fun E => ?_)
    · refine qt_iconst dX12_in_17 ci_0 ?_
      exact qt_zreturn rfl (Or.inl rfl) (Nat.le_of_ble_eq_true rfl) dX12_in_18 E G
    · refine qt_iconst dX12_in_13 ci_1 ?_
      refine qt_goto 18 dX12_in_14 (by decide) ?_
      exact qt_zreturn rfl (Or.inr rfl) (Nat.le_of_ble_eq_true rfl) dX12_in_18 E G
noncomputable def m_X12_isDigit (h : qa_M) : Option (Int32 × qa_M) :=
  qbn (m_X12_sign h) (fun (c1 : Int32) (h1 : qa_M) =>
  qbn (m_X12_in c1.toInt64 (48 : Int64) (57 : Int64) h1) (fun (c11 : Int32) (h11 : qa_M) =>
  qpr (c11 = 0 ∨ c11 = 1) (
  some (c11, h11))))
set_option maxRecDepth 20000 in
theorem c_X12_isDigit {l : Launch} {g : qa_G} {d : Nat} (h : qa_M) {c : Int32} {h1 : qa_M} (E : m_X12_isDigit h = some (c, h1)) : qt_Met l g (yX12_isDigit, cX12_isDigit, 1, (some .boolean)) (d + 1) 0 [.ref (g.1 + 119)] h (some (.int c)) h1 := by
  refine qt_Met.of (plainFor_of_name (by decide)) (Nat.le_of_ble_eq_true rfl) ?_
  have G : qg_i (some (.int c)) h1 ((c, h1)) := ⟨rfl, rfl⟩
  unfold m_X12_isDigit at E
  refine qt_aload_n 0 dX12_isDigit_0 rfl rfl ?_
  obtain ⟨c1, h1, e1, E⟩ := qbn_el E
  refine qt_callVi (b2 := 0) [] (c_X12_sign h e1) cv_RX12_246 (wl_119 h) rfl rfl rfl (Nat.le_of_ble_eq_true rfl) (Nat.le_of_ble_eq_true rfl) dX12_isDigit_1 ?_
  refine qt_i2l dX12_isDigit_4 ?_
  refine qt_ldc2 tb_1648 dX12_isDigit_5 ?_
  refine qt_ldc2 tb_1649 dX12_isDigit_8 ?_
  obtain ⟨c11, h11, e11, E⟩ := qbn_el E
  refine qt_callSi (b2 := 0) [.long c1.toInt64, .long (48 : Int64), .long (57 : Int64)] (c_X12_in c1.toInt64 (48 : Int64) (57 : Int64) h1 e11) cv_RX12_161 rfl (Nat.le_of_ble_eq_true rfl) (Nat.le_of_ble_eq_true rfl) dX12_isDigit_11 ?_
  obtain ⟨z14, E⟩ := qpr_el E
  exact qt_zreturn rfl z14 (Nat.le_of_ble_eq_true rfl) dX12_isDigit_14 E G
noncomputable def f_X12_digits_b87 (x2 : Int32) (x3 : Int32) (h : qa_M) : Option (Int32 × qa_M) :=
  qbv (m_X12_fails (1 : Int32) x2 h) (fun h90 : qa_M =>
  some (x3, h90))
set_option maxRecDepth 20000 in
theorem s_X12_digits_b87 {l : Launch} {g : qa_G} {d : Nat} {rz : Option Value} {hz : qa_M} (x2 : Int32) (x3 : Int32) (h : qa_M) {z : (Int32 × qa_M)} (E : f_X12_digits_b87 x2 x3 h = some z) (G : (qg_i rz hz) z) : qt_At l g (yX12_digits, cX12_digits, 4, (some .int)) (d + 2) 0 0 87 [(0, .ref (g.1 + 119)), (2, .int x2), (3, .int x3)] [] h rz hz := by
  unfold f_X12_digits_b87 at E
  refine qt_aload_n 0 dX12_digits_87 rfl rfl ?_
  refine qt_iconst dX12_digits_88 ci_1 ?_
  refine qt_iload_n 1 dX12_digits_89 rfl rfl ?_
  obtain ⟨h90, e90, E⟩ := qbv_el E
  refine qt_callVv (b2 := 0) [.int (1 : Int32), .int x2] (c_X12_fails (1 : Int32) x2 h e90) cv_RX12_279 (wl_119 h) rfl rfl rfl (Nat.le_of_ble_eq_true rfl) (Nat.le_of_ble_eq_true rfl) dX12_digits_90 ?_
  refine qt_iload_n 2 dX12_digits_93 rfl rfl ?_
  exact qt_ireturn rfl (Nat.le_of_ble_eq_true rfl) dX12_digits_94 E G
noncomputable def f_X12_digits_b72 (x1 : Int32) (x2 : Int32) (x3 : Int32) (h : qa_M) : Option (Int32 × qa_M) :=
  if (5 : Int32) < ((h.1 119 21) - x2) then (
   f_X12_digits_b87 x2 x3 h)
  else (
   if x3 ≤ x1 then (
    some (x3, h))
   else (
    f_X12_digits_b87 x2 x3 h))
set_option maxRecDepth 20000 in
theorem s_X12_digits_b72 {l : Launch} {g : qa_G} {d : Nat} {rz : Option Value} {hz : qa_M} (x1 : Int32) (x2 : Int32) (x3 : Int32) (h : qa_M) {z : (Int32 × qa_M)} (E : f_X12_digits_b72 x1 x2 x3 h = some z) (G : (qg_i rz hz) z) : qt_At l g (yX12_digits, cX12_digits, 4, (some .int)) (d + 2) 0 0 72 [(0, .ref (g.1 + 119)), (1, .int x1), (2, .int x2), (3, .int x3)] [] h rz hz := by
  unfold f_X12_digits_b72 at E
  refine qt_aload_n 0 dX12_digits_72 rfl rfl ?_
  refine qt_getI (wl_119 h) fe_RX12_243 rfl dX12_digits_73 ?_
  refine qt_iload_n 2 dX12_digits_76 rfl rfl ?_
  refine qt_isub dX12_digits_77 ?_
  refine qt_iconst dX12_digits_78 ci_5 ?_
  refine qt_icmp_gt 87 dX12_digits_79 (by decide) E (fun E => ?_) (fun E => ?_)
  · exact qt_sub _ [0, 2, 3] rfl ((s_X12_digits_b87 x2 x3 h E G))
  · refine qt_iload_n 3 dX12_digits_82 rfl rfl ?_
    refine qt_iload_n 1 dX12_digits_83 rfl rfl ?_
    refine qt_icmp_le 93 dX12_digits_84 (by decide) E (fun E => ?_) (fun E => ?_)
    · refine qt_iload_n 3 dX12_digits_93 rfl rfl ?_
      exact qt_ireturn rfl (Nat.le_of_ble_eq_true rfl) dX12_digits_94 E G
    · exact qt_sub _ [0, 2, 3] rfl ((s_X12_digits_b87 x2 x3 h E G))
noncomputable def f_X12_digits_b58 (x1 : Int32) (x2 : Int32) (s0 : Int32) (h : qa_M) : Option ((Int32 × Int32 × Int32 × qa_M) ⊕ (Int32 × qa_M)) :=
  qbd s0 (fun v58 : Int32 =>
  qbd (qw_I h 119 21 ((h.1 119 21) + (1 : Int32))) (fun h66 : qa_M =>
  some (.inl (x1, x2, v58, h66))))
set_option maxRecDepth 20000 in
theorem s_X12_digits_b58 {l : Launch} {g : qa_G} {d : Nat} {rz : Option Value} {hz : qa_M} (x1 : Int32) (x2 : Int32) (s0 : Int32) (h : qa_M) {z : ((Int32 × Int32 × Int32 × qa_M) ⊕ (Int32 × qa_M))} (E : f_X12_digits_b58 x1 x2 s0 h = some z) (G : (Sum.elim (fun (sz : Int32 × Int32 × Int32 × qa_M) => qt_At l g (yX12_digits, cX12_digits, 4, (some .int)) (d + 2) 0 0 25 [(0, .ref (g.1 + 119)), (1, .int sz.1), (2, .int sz.2.1), (3, .int sz.2.2.1)] [] sz.2.2.2 rz hz) (qg_i rz hz)) z) : qt_At l g (yX12_digits, cX12_digits, 4, (some .int)) (d + 2) 0 0 58 [(0, .ref (g.1 + 119)), (1, .int x1), (2, .int x2)] [.int s0] h rz hz := by
  unfold f_X12_digits_b58 at E
  refine qt_istore_n (fun v58 => [(3, .int v58), (0, .ref (g.1 + 119)), (1, .int x1), (2, .int x2)]) dX12_digits_58 rfl (Nat.le_of_ble_eq_true rfl) (fun _ => rfl) E (fun v58 E => ?_)
  refine qt_aload_n 1 dX12_digits_59 rfl rfl ?_
  refine qt_dup dX12_digits_60 rfl ?_
  refine qt_getI (wl_119 h) fe_RX12_243 rfl dX12_digits_61 ?_
  refine qt_iconst dX12_digits_64 ci_1 ?_
  refine qt_iadd dX12_digits_65 ?_
  refine qt_putI (wl_119 h) fd_RX12_243 rfl rfl rfl dX12_digits_66 E (fun h66 E => ?_)
  refine qt_goto 25 dX12_digits_69 (by decide) ?_
  cases E
  exact qt_sub _ [1, 2, 3, 0] rfl (G)
noncomputable def f_X12_digits_b25 (x1 : Int32) (x2 : Int32) (x3 : Int32) (h : qa_M) : Option ((Int32 × Int32 × Int32 × qa_M) ⊕ (Int32 × qa_M)) :=
  qbn (m_X12_isDigit h) (fun (c26 : Int32) (h26 : qa_M) =>
  if c26 = 0 then (
   qup (f_X12_digits_b72 x1 x2 x3 h26))
  else (
   if (5 : Int32) ≤ ((h26.1 119 21) - x2) then (
    f_X12_digits_b58 x1 x2 x3 h26)
   else (
    qbn (m_X12_sign h26) (fun (c47 : Int32) (h47 : qa_M) =>
    f_X12_digits_b58 x1 x2 ((((10 : Int32) * x3) + c47) - (48 : Int32)) h47))))
set_option maxRecDepth 20000 in
theorem s_X12_digits_b25 {l : Launch} {g : qa_G} {d : Nat} {rz : Option Value} {hz : qa_M} (x1 : Int32) (x2 : Int32) (x3 : Int32) (h : qa_M) {z : ((Int32 × Int32 × Int32 × qa_M) ⊕ (Int32 × qa_M))} (E : f_X12_digits_b25 x1 x2 x3 h = some z) (G : (Sum.elim (fun (sz : Int32 × Int32 × Int32 × qa_M) => qt_At l g (yX12_digits, cX12_digits, 4, (some .int)) (d + 2) 0 0 25 [(0, .ref (g.1 + 119)), (1, .int sz.1), (2, .int sz.2.1), (3, .int sz.2.2.1)] [] sz.2.2.2 rz hz) (qg_i rz hz)) z) : qt_At l g (yX12_digits, cX12_digits, 4, (some .int)) (d + 2) 0 0 25 [(0, .ref (g.1 + 119)), (1, .int x1), (2, .int x2), (3, .int x3)] [] h rz hz := by
  unfold f_X12_digits_b25 at E
  refine qt_aload_n 0 dX12_digits_25 rfl rfl ?_
  obtain ⟨c26, h26, e26, E⟩ := qbn_el E
  refine qt_callVi (b2 := 0) [] (c_X12_isDigit h e26) cv_RX12_283 (wl_119 h) rfl rfl rfl (Nat.le_of_ble_eq_true rfl) (Nat.le_of_ble_eq_true rfl) dX12_digits_26 ?_
  refine qt_if_eq 72 dX12_digits_29 (by decide) E (fun E => ?_) (fun E => ?_)
  · obtain ⟨z0_, E, G⟩ := qup_g E G
    exact qt_sub _ [0, 1, 2, 3] rfl ((s_X12_digits_b72 x1 x2 x3 h26 E G))
  · refine qt_aload_n 0 dX12_digits_32 rfl rfl ?_
    refine qt_getI (wl_119 h26) fe_RX12_243 rfl dX12_digits_33 ?_
    refine qt_iload_n 2 dX12_digits_36 rfl rfl ?_
    refine qt_isub dX12_digits_37 ?_
    refine qt_iconst dX12_digits_38 ci_5 ?_
    refine qt_icmp_ge 57 dX12_digits_39 (by decide) E (fun E => ?_) (fun E => ?_)
    · refine qt_iload_n 3 dX12_digits_57 rfl rfl ?_
      exact qt_sub _ [0, 1, 2] rfl ((s_X12_digits_b58 x1 x2 x3 h26 E G))
    · refine qt_bipush dX12_digits_42 cb_10 ?_
      refine qt_iload_n 3 dX12_digits_44 rfl rfl ?_
      refine qt_imul dX12_digits_45 ?_
      refine qt_aload_n 0 dX12_digits_46 rfl rfl ?_
      obtain ⟨c47, h47, e47, E⟩ := qbn_el E
      refine qt_callVi (b2 := 0) [] (c_X12_sign h26 e47) cv_RX12_246 (wl_119 h26) rfl rfl rfl (Nat.le_of_ble_eq_true rfl) (Nat.le_of_ble_eq_true rfl) dX12_digits_47 ?_
      refine qt_iadd dX12_digits_50 ?_
      refine qt_bipush dX12_digits_51 cb_48 ?_
      refine qt_isub dX12_digits_53 ?_
      refine qt_goto 58 dX12_digits_54 (by decide) ?_
      exact qt_sub _ [0, 1, 2] rfl ((s_X12_digits_b58 x1 x2 ((((10 : Int32) * x3) + c47) - (48 : Int32)) h47 E G))
noncomputable def f_X12_digits_b25_loop (x1 : Int32) (x2 : Int32) (x3 : Int32) (h : qa_M) : Option (Int32 × qa_M) := qlp (fun sz : Int32 × Int32 × Int32 × qa_M => f_X12_digits_b25 sz.1 sz.2.1 sz.2.2.1 sz.2.2.2) (x1, x2, x3, h)
theorem s_X12_digits_b25_loop {l : Launch} {g : qa_G} {d : Nat} {rz : Option Value} {hz : qa_M} (x1 : Int32) (x2 : Int32) (x3 : Int32) (h : qa_M) {z : (Int32 × qa_M)} (E : f_X12_digits_b25_loop x1 x2 x3 h = some z) (G : (qg_i rz hz) z) : qt_At l g (yX12_digits, cX12_digits, 4, (some .int)) (d + 2) 0 0 25 [(0, .ref (g.1 + 119)), (1, .int x1), (2, .int x2), (3, .int x3)] [] h rz hz :=
  qlp_ind (fun sz : Int32 × Int32 × Int32 × qa_M => qt_At l g (yX12_digits, cX12_digits, 4, (some .int)) (d + 2) 0 0 25 [(0, .ref (g.1 + 119)), (1, .int sz.1), (2, .int sz.2.1), (3, .int sz.2.2.1)] [] sz.2.2.2 rz hz) (fun sz E => s_X12_digits_b25 sz.1 sz.2.1 sz.2.2.1 sz.2.2.2 E G) (fun sz sz2 E ih => s_X12_digits_b25 sz.1 sz.2.1 sz.2.2.1 sz.2.2.2 E ih) (x1, x2, x3, h) E
noncomputable def m_X12_digits (x1 : Int32) (h : qa_M) : Option (Int32 × qa_M) :=
  qbn (m_X12_isDigit h) (fun (c1 : Int32) (h1 : qa_M) =>
  if c1 = 0 then (
   qbv (m_X12_fails (0 : Int32) (h1.1 119 21) h1) (fun h13 : qa_M =>
   some ((0 : Int32), h13)))
  else (
   qbd (h1.1 119 21) (fun v22 : Int32 =>
   qbd (0 : Int32) (fun v24 : Int32 =>
   f_X12_digits_b25_loop x1 v22 v24 h1))))
set_option maxRecDepth 20000 in
theorem c_X12_digits {l : Launch} {g : qa_G} {d : Nat} (x1 : Int32) (h : qa_M) {c : Int32} {h1 : qa_M} (E : m_X12_digits x1 h = some (c, h1)) : qt_Met l g (yX12_digits, cX12_digits, 4, (some .int)) (d + 2) 0 [.ref (g.1 + 119), .int x1] h (some (.int c)) h1 := by
  refine qt_Met.of (plainFor_of_name (by decide)) (Nat.le_of_ble_eq_true rfl) ?_
  have G : qg_i (some (.int c)) h1 ((c, h1)) := ⟨rfl, rfl⟩
  unfold m_X12_digits at E
  refine qt_aload_n 0 dX12_digits_0 rfl rfl ?_
  obtain ⟨c1, h1, e1, E⟩ := qbn_el E
  refine qt_callVi (b2 := 0) [] (c_X12_isDigit h e1) cv_RX12_283 (wl_119 h) rfl rfl rfl (Nat.le_of_ble_eq_true rfl) (Nat.le_of_ble_eq_true rfl) dX12_digits_1 ?_
  refine qt_if_ne 18 dX12_digits_4 (by decide) E (fun E => ?_) (fun E => ?_)
  · refine qt_aload_n 0 dX12_digits_18 rfl rfl ?_
    refine qt_getI (wl_119 h1) fe_RX12_243 rfl dX12_digits_19 ?_
    refine qt_istore_n (fun v22 => [(2, .int v22), (0, .ref (g.1 + 119)), (1, .int x1)]) dX12_digits_22 rfl (Nat.le_of_ble_eq_true rfl) (fun _ => rfl) E (fun v22 E => ?_)
    refine qt_iconst dX12_digits_23 ci_0 ?_
    refine qt_istore_n (fun v24 => [(3, .int v24), (2, .int v22), (0, .ref (g.1 + 119)), (1, .int x1)]) dX12_digits_24 rfl (Nat.le_of_ble_eq_true rfl) (fun _ => rfl) E (fun v24 E => ?_)
    exact qt_sub _ [2, 3, 1, 0] rfl ((s_X12_digits_b25_loop x1 v22 v24 h1 E G))
  · refine qt_aload_n 0 dX12_digits_7 rfl rfl ?_
    refine qt_iconst dX12_digits_8 ci_0 ?_
    refine qt_aload_n 0 dX12_digits_9 rfl rfl ?_
    refine qt_getI (wl_119 h1) fe_RX12_243 rfl dX12_digits_10 ?_
    obtain ⟨h13, e13, E⟩ := qbv_el E
    refine qt_callVv (b2 := 0) [.int (0 : Int32), .int (h1.1 119 21)] (c_X12_fails (0 : Int32) (h1.1 119 21) h1 e13) cv_RX12_279 (wl_119 h1) rfl rfl rfl (Nat.le_of_ble_eq_true rfl) (Nat.le_of_ble_eq_true rfl) dX12_digits_13 ?_
    refine qt_iconst dX12_digits_16 ci_0 ?_
    exact qt_ireturn rfl (Nat.le_of_ble_eq_true rfl) dX12_digits_17 E G
noncomputable def f_X12_amount_b27 (x1 : Int32) (x2 : Int32) (x3 : Int32) (s0 : Int32) (h : qa_M) : Option (Int32 × qa_M) :=
  qbd s0 (fun v27 : Int32 =>
  if (h.1 119 22) = 0 then (
   qbn (m_X12_in v27.toInt64 x1.toInt64 x2.toInt64 h) (fun (c43 : Int32) (h43 : qa_M) =>
   if c43 = 0 then (
    qbv (m_X12_fails (1 : Int32) x3 h43) (fun h52 : qa_M =>
    some (v27, h52)))
   else (
    some (v27, h43))))
  else (
   some (v27, h)))
set_option maxRecDepth 20000 in
theorem s_X12_amount_b27 {l : Launch} {g : qa_G} {d : Nat} {rz : Option Value} {hz : qa_M} (x1 : Int32) (x2 : Int32) (x3 : Int32) (s0 : Int32) (h : qa_M) {z : (Int32 × qa_M)} (E : f_X12_amount_b27 x1 x2 x3 s0 h = some z) (G : (qg_i rz hz) z) : qt_At l g (yX12_amount, cX12_amount, 5, (some .int)) (d + 3) 0 0 27 [(0, .ref (g.1 + 119)), (1, .int x1), (2, .int x2), (3, .int x3)] [.int s0] h rz hz := by
  unfold f_X12_amount_b27 at E
  refine qt_istore (fun v27 => [(4, .int v27), (0, .ref (g.1 + 119)), (1, .int x1), (2, .int x2), (3, .int x3)]) dX12_amount_27 (Nat.le_of_ble_eq_true rfl) (fun _ => rfl) E (fun v27 E => ?_)
  refine qt_aload_n 1 dX12_amount_29 rfl rfl ?_
  refine qt_getI (wl_119 h) fe_RX12_240 rfl dX12_amount_30 ?_
  refine qt_if_ne 55 dX12_amount_33 (by decide) E (fun E => ?_) (fun E => ?_)
  · refine qt_iload 0 dX12_amount_55 rfl ?_
    exact qt_ireturn rfl (Nat.le_of_ble_eq_true rfl) dX12_amount_57 E G
  · refine qt_iload 0 dX12_amount_36 rfl ?_
    refine qt_i2l dX12_amount_38 ?_
    refine qt_iload_n 2 dX12_amount_39 rfl rfl ?_
    refine qt_i2l dX12_amount_40 ?_
    refine qt_iload_n 3 dX12_amount_41 rfl rfl ?_
    refine qt_i2l dX12_amount_42 ?_
    obtain ⟨c43, h43, e43, E⟩ := qbn_el E
    refine qt_callSi (b2 := 0) [.long v27.toInt64, .long x1.toInt64, .long x2.toInt64] (c_X12_in v27.toInt64 x1.toInt64 x2.toInt64 h e43) cv_RX12_161 rfl (Nat.le_of_ble_eq_true rfl) (Nat.le_of_ble_eq_true rfl) dX12_amount_43 ?_
    refine qt_if_ne 55 dX12_amount_46 (by decide) E (fun E => ?_) (fun E => ?_)
    · refine qt_iload 0 dX12_amount_55 rfl ?_
      exact qt_ireturn rfl (Nat.le_of_ble_eq_true rfl) dX12_amount_57 E G
    · refine qt_aload_n 1 dX12_amount_49 rfl rfl ?_
      refine qt_iconst dX12_amount_50 ci_1 ?_
      refine qt_iload_n 4 dX12_amount_51 rfl rfl ?_
      obtain ⟨h52, e52, E⟩ := qbv_el E
      refine qt_callVv (b2 := 0) [.int (1 : Int32), .int x3] (c_X12_fails (1 : Int32) x3 h43 e52) cv_RX12_279 (wl_119 h43) rfl rfl rfl (Nat.le_of_ble_eq_true rfl) (Nat.le_of_ble_eq_true rfl) dX12_amount_52 ?_
      refine qt_iload 0 dX12_amount_55 rfl ?_
      exact qt_ireturn rfl (Nat.le_of_ble_eq_true rfl) dX12_amount_57 E G
noncomputable def m_X12_amount (x1 : Int32) (x2 : Int32) (h : qa_M) : Option (Int32 × qa_M) :=
  qbv (m_X12_blanks h) (fun h1 : qa_M =>
  qbd (h1.1 119 21) (fun v8 : Int32 =>
  if (h1.1 119 22) = 0 then (
   qbn (m_X12_digits (99999 : Int32) h1) (fun (c20 : Int32) (h20 : qa_M) =>
   f_X12_amount_b27 x1 x2 v8 c20 h20))
  else (
   f_X12_amount_b27 x1 x2 v8 (0 : Int32) h1)))
set_option maxRecDepth 20000 in
theorem c_X12_amount {l : Launch} {g : qa_G} {d : Nat} (x1 : Int32) (x2 : Int32) (h : qa_M) {c : Int32} {h1 : qa_M} (E : m_X12_amount x1 x2 h = some (c, h1)) : qt_Met l g (yX12_amount, cX12_amount, 5, (some .int)) (d + 3) 0 [.ref (g.1 + 119), .int x1, .int x2] h (some (.int c)) h1 := by
  refine qt_Met.of (plainFor_of_name (by decide)) (Nat.le_of_ble_eq_true rfl) ?_
  have G : qg_i (some (.int c)) h1 ((c, h1)) := ⟨rfl, rfl⟩
  unfold m_X12_amount at E
  refine qt_aload_n 0 dX12_amount_0 rfl rfl ?_
  obtain ⟨h1, e1, E⟩ := qbv_el E
  refine qt_callVv (b2 := 0) [] (c_X12_blanks h e1) cv_RX12_263 (wl_119 h) rfl rfl rfl (Nat.le_of_ble_eq_true rfl) (Nat.le_of_ble_eq_true rfl) dX12_amount_1 ?_
  refine qt_aload_n 0 dX12_amount_4 rfl rfl ?_
  refine qt_getI (wl_119 h1) fe_RX12_243 rfl dX12_amount_5 ?_
  refine qt_istore_n (fun v8 => [(3, .int v8), (0, .ref (g.1 + 119)), (1, .int x1), (2, .int x2)]) dX12_amount_8 rfl (Nat.le_of_ble_eq_true rfl) (fun _ => rfl) E (fun v8 E => ?_)
  refine qt_aload_n 1 dX12_amount_9 rfl rfl ?_
  refine qt_getI (wl_119 h1) fe_RX12_240 rfl dX12_amount_10 ?_
  refine qt_if_ne 26 dX12_amount_13 (by decide) E (fun E => ?_) (fun E => ?_)
  · refine qt_iconst dX12_amount_26 ci_0 ?_
    exact qt_sub _ [1, 2, 3, 0] rfl ((s_X12_amount_b27 x1 x2 v8 (0 : Int32) h1 E G))
  · refine qt_aload_n 1 dX12_amount_16 rfl rfl ?_
    refine qt_ldcw tb_1639 dX12_amount_17 ?_
    obtain ⟨c20, h20, e20, E⟩ := qbn_el E
    refine qt_callVi (b2 := 0) [.int (99999 : Int32)] (c_X12_digits (99999 : Int32) h1 e20) cv_RX12_287 (wl_119 h1) rfl rfl rfl (Nat.le_of_ble_eq_true rfl) (Nat.le_of_ble_eq_true rfl) dX12_amount_20 ?_
    refine qt_goto 27 dX12_amount_23 (by decide) ?_
    exact qt_sub _ [1, 2, 3, 0] rfl ((s_X12_amount_b27 x1 x2 v8 c20 h20 E G))
noncomputable def m_X12_spotX (x1 : Int32) (h : qa_M) : Option (Int32 × qa_M) :=
  qck (0 : Int32) 5 (
  qbn (m_X12_amount x1 ((h.1 132 (0 : Int32).toNatClampNeg) - (1 : Int32)) h) (fun (c10 : Int32) (h10 : qa_M) =>
  some (c10, h10)))
set_option maxRecDepth 20000 in
theorem c_X12_spotX {l : Launch} {g : qa_G} {d : Nat} (x1 : Int32) (h : qa_M) {c : Int32} {h1 : qa_M} (E : m_X12_spotX x1 h = some (c, h1)) : qt_Met l g (yX12_spotX, cX12_spotX, 2, (some .int)) (d + 4) 0 [.ref (g.1 + 119), .int x1] h (some (.int c)) h1 := by
  refine qt_Met.of (plainFor_of_name (by decide)) (Nat.le_of_ble_eq_true rfl) ?_
  have G : qg_i (some (.int c)) h1 ((c, h1)) := ⟨rfl, rfl⟩
  unfold m_X12_spotX at E
  refine qt_aload_n 0 dX12_spotX_0 rfl rfl ?_
  refine qt_iload_n 1 dX12_spotX_1 rfl rfl ?_
  refine qt_aload_n 0 dX12_spotX_2 rfl rfl ?_
  refine qt_getS 132 (wl_119 h) fe_RX12_46 rfl dX12_spotX_3 ?_
  refine qt_iconst dX12_spotX_6 ci_0 ?_
  refine qt_iald (wl_132 h) dX12_spotX_7 E (fun E => ?_)
  refine qt_iconst dX12_spotX_8 ci_1 ?_
  refine qt_isub dX12_spotX_9 ?_
  obtain ⟨c10, h10, e10, E⟩ := qbn_el E
  refine qt_callVi (b2 := 0) [.int x1, .int ((h.1 132 (0 : Int32).toNatClampNeg) - (1 : Int32))] (c_X12_amount x1 ((h.1 132 (0 : Int32).toNatClampNeg) - (1 : Int32)) h e10) cv_RX12_336 (wl_119 h) rfl rfl rfl (Nat.le_of_ble_eq_true rfl) (Nat.le_of_ble_eq_true rfl) dX12_spotX_10 ?_
  exact qt_ireturn rfl (Nat.le_of_ble_eq_true rfl) dX12_spotX_13 E G
noncomputable def m_X12_spotY (x1 : Int32) (h : qa_M) : Option (Int32 × qa_M) :=
  qck (1 : Int32) 5 (
  qbn (m_X12_amount x1 ((h.1 132 (1 : Int32).toNatClampNeg) - (1 : Int32)) h) (fun (c10 : Int32) (h10 : qa_M) =>
  some (c10, h10)))
set_option maxRecDepth 20000 in
theorem c_X12_spotY {l : Launch} {g : qa_G} {d : Nat} (x1 : Int32) (h : qa_M) {c : Int32} {h1 : qa_M} (E : m_X12_spotY x1 h = some (c, h1)) : qt_Met l g (yX12_spotY, cX12_spotY, 2, (some .int)) (d + 4) 0 [.ref (g.1 + 119), .int x1] h (some (.int c)) h1 := by
  refine qt_Met.of (plainFor_of_name (by decide)) (Nat.le_of_ble_eq_true rfl) ?_
  have G : qg_i (some (.int c)) h1 ((c, h1)) := ⟨rfl, rfl⟩
  unfold m_X12_spotY at E
  refine qt_aload_n 0 dX12_spotY_0 rfl rfl ?_
  refine qt_iload_n 1 dX12_spotY_1 rfl rfl ?_
  refine qt_aload_n 0 dX12_spotY_2 rfl rfl ?_
  refine qt_getS 132 (wl_119 h) fe_RX12_46 rfl dX12_spotY_3 ?_
  refine qt_iconst dX12_spotY_6 ci_1 ?_
  refine qt_iald (wl_132 h) dX12_spotY_7 E (fun E => ?_)
  refine qt_iconst dX12_spotY_8 ci_1 ?_
  refine qt_isub dX12_spotY_9 ?_
  obtain ⟨c10, h10, e10, E⟩ := qbn_el E
  refine qt_callVi (b2 := 0) [.int x1, .int ((h.1 132 (1 : Int32).toNatClampNeg) - (1 : Int32))] (c_X12_amount x1 ((h.1 132 (1 : Int32).toNatClampNeg) - (1 : Int32)) h e10) cv_RX12_336 (wl_119 h) rfl rfl rfl (Nat.le_of_ble_eq_true rfl) (Nat.le_of_ble_eq_true rfl) dX12_spotY_10 ?_
  exact qt_ireturn rfl (Nat.le_of_ble_eq_true rfl) dX12_spotY_13 E G
noncomputable def f_X12_woods_b92 (x1 : Int32) (x2 : Int32) (x3 : Int32) (x4 : Int32) (x5 : Int32) (s1 : Int32) (s2 : Int32) (h : qa_M) : Option ((Int32 × Int32 × Int32 × Int32 × Int32 × qa_M) ⊕ qa_M) :=
  qck s1 36 (
  qbd (qw_I h 133 s1.toNatClampNeg s2) (fun h92 : qa_M =>
  qbd (x5 + (1 : Int32)) (fun v93 : Int32 =>
  some (.inl (x1, x2, x3, x4, v93, h92)))))
set_option maxRecDepth 20000 in
theorem s_X12_woods_b92 {l : Launch} {g : qa_G} {d : Nat} {rz : Option Value} {hz : qa_M} (x1 : Int32) (x2 : Int32) (x3 : Int32) (x4 : Int32) (x5 : Int32) (s1 : Int32) (s2 : Int32) (h : qa_M) {z : ((Int32 × Int32 × Int32 × Int32 × Int32 × qa_M) ⊕ qa_M)} (E : f_X12_woods_b92 x1 x2 x3 x4 x5 s1 s2 h = some z) (G : (Sum.elim (fun (sz : Int32 × Int32 × Int32 × Int32 × Int32 × qa_M) => qt_At l g (yX12_woods, cX12_woods, 6, none) (d + 5) 0 0 28 [(0, .ref (g.1 + 119)), (1, .int sz.1), (2, .int sz.2.1), (3, .int sz.2.2.1), (4, .int sz.2.2.2.1), (5, .int sz.2.2.2.2.1)] [] sz.2.2.2.2.2 rz hz) (qg_v rz hz)) z) : qt_At l g (yX12_woods, cX12_woods, 6, none) (d + 5) 0 0 92 [(0, .ref (g.1 + 119)), (1, .int x1), (2, .int x2), (3, .int x3), (4, .int x4), (5, .int x5)] [.int s2, .int s1, .ref (g.1 + 133)] h rz hz := by
  unfold f_X12_woods_b92 at E
  refine qt_iast (wl_133 h) dX12_woods_92 E (fun h92 E => ?_)
  refine qt_iinc 5 (fun v93 => [(5, .int v93), (0, .ref (g.1 + 119)), (1, .int x1), (2, .int x2), (3, .int x3), (4, .int x4)]) dX12_woods_93 rfl ci_1 (Nat.le_of_ble_eq_true rfl) (fun _ => rfl) E (fun v93 E => ?_)
  refine qt_goto 28 dX12_woods_96 (by decide) ?_
  cases E
  exact qt_sub _ [1, 2, 3, 4, 5, 0] rfl (G)
noncomputable def f_X12_woods_b85 (x1 : Int32) (x2 : Int32) (x3 : Int32) (x4 : Int32) (x5 : Int32) (s1 : Int32) (h : qa_M) : Option ((Int32 × Int32 × Int32 × Int32 × Int32 × qa_M) ⊕ qa_M) :=
  qck x5 36 (
  f_X12_woods_b92 x1 x2 x3 x4 x5 s1 (h.1 133 x5.toNatClampNeg) h)
set_option maxRecDepth 20000 in
theorem s_X12_woods_b85 {l : Launch} {g : qa_G} {d : Nat} {rz : Option Value} {hz : qa_M} (x1 : Int32) (x2 : Int32) (x3 : Int32) (x4 : Int32) (x5 : Int32) (s1 : Int32) (h : qa_M) {z : ((Int32 × Int32 × Int32 × Int32 × Int32 × qa_M) ⊕ qa_M)} (E : f_X12_woods_b85 x1 x2 x3 x4 x5 s1 h = some z) (G : (Sum.elim (fun (sz : Int32 × Int32 × Int32 × Int32 × Int32 × qa_M) => qt_At l g (yX12_woods, cX12_woods, 6, none) (d + 5) 0 0 28 [(0, .ref (g.1 + 119)), (1, .int sz.1), (2, .int sz.2.1), (3, .int sz.2.2.1), (4, .int sz.2.2.2.1), (5, .int sz.2.2.2.2.1)] [] sz.2.2.2.2.2 rz hz) (qg_v rz hz)) z) : qt_At l g (yX12_woods, cX12_woods, 6, none) (d + 5) 0 0 85 [(0, .ref (g.1 + 119)), (1, .int x1), (2, .int x2), (3, .int x3), (4, .int x4), (5, .int x5)] [.int s1, .ref (g.1 + 133)] h rz hz := by
  unfold f_X12_woods_b85 at E
  refine qt_aload_n 0 dX12_woods_85 rfl rfl ?_
  refine qt_getS 133 (wl_119 h) fe_RX12_49 rfl dX12_woods_86 ?_
  refine qt_iload 5 dX12_woods_89 rfl ?_
  refine qt_iald (wl_133 h) dX12_woods_91 E (fun E => ?_)
  exact qt_sub _ [0, 1, 2, 3, 4, 5] rfl ((s_X12_woods_b92 x1 x2 x3 x4 x5 s1 (h.1 133 x5.toNatClampNeg) h E G))
noncomputable def f_X12_woods_b28 (x1 : Int32) (x2 : Int32) (x3 : Int32) (x4 : Int32) (x5 : Int32) (h : qa_M) : Option ((Int32 × Int32 × Int32 × Int32 × Int32 × qa_M) ⊕ qa_M) :=
  if (36 : Int32) ≤ x5 then (
   qup (some h))
  else (
   if (h.1 119 22) = 0 then (
    qbn (m_X12_in ((x5 - x5 / (6 : Int32) * (6 : Int32)).toInt64) x1.toInt64 x3.toInt64 h) (fun (c58 : Int32) (h58 : qa_M) =>
    if c58 = 0 then (
     f_X12_woods_b85 x1 x2 x3 x4 x5 x5 h58)
    else (
     qbn (m_X12_in ((x5 / (6 : Int32)).toInt64) x2.toInt64 x4.toInt64 h58) (fun (c75 : Int32) (h75 : qa_M) =>
     if c75 = 0 then (
      f_X12_woods_b85 x1 x2 x3 x4 x5 x5 h75)
     else (
      f_X12_woods_b92 x1 x2 x3 x4 x5 x5 (1 : Int32) h75)))))
   else (
    qup (some h)))
set_option maxRecDepth 20000 in
theorem s_X12_woods_b28 {l : Launch} {g : qa_G} {d : Nat} {rz : Option Value} {hz : qa_M} (x1 : Int32) (x2 : Int32) (x3 : Int32) (x4 : Int32) (x5 : Int32) (h : qa_M) {z : ((Int32 × Int32 × Int32 × Int32 × Int32 × qa_M) ⊕ qa_M)} (E : f_X12_woods_b28 x1 x2 x3 x4 x5 h = some z) (G : (Sum.elim (fun (sz : Int32 × Int32 × Int32 × Int32 × Int32 × qa_M) => qt_At l g (yX12_woods, cX12_woods, 6, none) (d + 5) 0 0 28 [(0, .ref (g.1 + 119)), (1, .int sz.1), (2, .int sz.2.1), (3, .int sz.2.2.1), (4, .int sz.2.2.2.1), (5, .int sz.2.2.2.2.1)] [] sz.2.2.2.2.2 rz hz) (qg_v rz hz)) z) : qt_At l g (yX12_woods, cX12_woods, 6, none) (d + 5) 0 0 28 [(0, .ref (g.1 + 119)), (1, .int x1), (2, .int x2), (3, .int x3), (4, .int x4), (5, .int x5)] [] h rz hz := by
  unfold f_X12_woods_b28 at E
  refine qt_iload 5 dX12_woods_28 rfl ?_
  refine qt_bipush dX12_woods_30 cb_36 ?_
  refine qt_icmp_ge 99 dX12_woods_32 (by decide) E (fun E => ?_) (fun E => ?_)
  · obtain ⟨z0_, E, G⟩ := qup_g E G
    exact qt_vreturn rfl (Nat.le_of_ble_eq_true rfl) dX12_woods_99 E G
  · refine qt_aload_n 0 dX12_woods_35 rfl rfl ?_
    refine qt_getI (wl_119 h) fe_RX12_240 rfl dX12_woods_36 ?_
    refine qt_if_ne 99 dX12_woods_39 (by decide) E (fun E => ?_) (fun E => ?_)
    · obtain ⟨z0_, E, G⟩ := qup_g E G
      exact qt_vreturn rfl (Nat.le_of_ble_eq_true rfl) dX12_woods_99 E G
    · refine qt_aload_n 0 dX12_woods_42 rfl rfl ?_
      refine qt_getS 133 (wl_119 h) fe_RX12_49 rfl dX12_woods_43 ?_
      refine qt_iload 5 dX12_woods_46 rfl ?_
      refine qt_iload 5 dX12_woods_48 rfl ?_
      refine qt_bipush dX12_woods_50 cb_6 ?_
      refine qt_iremK dX12_woods_52 (by decide) ?_
      refine qt_i2l dX12_woods_53 ?_
      refine qt_iload_n 1 dX12_woods_54 rfl rfl ?_
      refine qt_i2l dX12_woods_55 ?_
      refine qt_iload_n 3 dX12_woods_56 rfl rfl ?_
      refine qt_i2l dX12_woods_57 ?_
      obtain ⟨c58, h58, e58, E⟩ := qbn_el E
      refine qt_callSi (b2 := 0) [.long ((x5 - x5 / (6 : Int32) * (6 : Int32)).toInt64), .long x1.toInt64, .long x3.toInt64] (c_X12_in ((x5 - x5 / (6 : Int32) * (6 : Int32)).toInt64) x1.toInt64 x3.toInt64 h e58) cv_RX12_161 rfl (Nat.le_of_ble_eq_true rfl) (Nat.le_of_ble_eq_true rfl) dX12_woods_58 ?_
      refine qt_if_eq 85 dX12_woods_61 (by decide) E (fun E => ?_) (fun E => ?_)
      · exact qt_sub _ [0, 1, 2, 3, 4, 5] rfl ((s_X12_woods_b85 x1 x2 x3 x4 x5 x5 h58 E G))
      · refine qt_iload 5 dX12_woods_64 rfl ?_
        refine qt_bipush dX12_woods_66 cb_6 ?_
        refine qt_idivK dX12_woods_68 (by decide) ?_
        refine qt_i2l dX12_woods_69 ?_
        refine qt_iload_n 2 dX12_woods_70 rfl rfl ?_
        refine qt_i2l dX12_woods_71 ?_
        refine qt_iload 4 dX12_woods_72 rfl ?_
        refine qt_i2l dX12_woods_74 ?_
        obtain ⟨c75, h75, e75, E⟩ := qbn_el E
        refine qt_callSi (b2 := 0) [.long ((x5 / (6 : Int32)).toInt64), .long x2.toInt64, .long x4.toInt64] (c_X12_in ((x5 / (6 : Int32)).toInt64) x2.toInt64 x4.toInt64 h58 e75) cv_RX12_161 rfl (Nat.le_of_ble_eq_true rfl) (Nat.le_of_ble_eq_true rfl) dX12_woods_75 ?_
        refine qt_if_eq 85 dX12_woods_78 (by decide) E (fun E => ?_) (fun E => ?_)
        · exact qt_sub _ [0, 1, 2, 3, 4, 5] rfl ((s_X12_woods_b85 x1 x2 x3 x4 x5 x5 h75 E G))
        · refine qt_iconst dX12_woods_81 ci_1 ?_
          refine qt_goto 92 dX12_woods_82 (by decide) ?_
          exact qt_sub _ [0, 1, 2, 3, 4, 5] rfl ((s_X12_woods_b92 x1 x2 x3 x4 x5 x5 (1 : Int32) h75 E G))
noncomputable def f_X12_woods_b28_loop (x1 : Int32) (x2 : Int32) (x3 : Int32) (x4 : Int32) (x5 : Int32) (h : qa_M) : Option qa_M := qlp (fun sz : Int32 × Int32 × Int32 × Int32 × Int32 × qa_M => f_X12_woods_b28 sz.1 sz.2.1 sz.2.2.1 sz.2.2.2.1 sz.2.2.2.2.1 sz.2.2.2.2.2) (x1, x2, x3, x4, x5, h)
theorem s_X12_woods_b28_loop {l : Launch} {g : qa_G} {d : Nat} {rz : Option Value} {hz : qa_M} (x1 : Int32) (x2 : Int32) (x3 : Int32) (x4 : Int32) (x5 : Int32) (h : qa_M) {z : qa_M} (E : f_X12_woods_b28_loop x1 x2 x3 x4 x5 h = some z) (G : (qg_v rz hz) z) : qt_At l g (yX12_woods, cX12_woods, 6, none) (d + 5) 0 0 28 [(0, .ref (g.1 + 119)), (1, .int x1), (2, .int x2), (3, .int x3), (4, .int x4), (5, .int x5)] [] h rz hz :=
  qlp_ind (fun sz : Int32 × Int32 × Int32 × Int32 × Int32 × qa_M => qt_At l g (yX12_woods, cX12_woods, 6, none) (d + 5) 0 0 28 [(0, .ref (g.1 + 119)), (1, .int sz.1), (2, .int sz.2.1), (3, .int sz.2.2.1), (4, .int sz.2.2.2.1), (5, .int sz.2.2.2.2.1)] [] sz.2.2.2.2.2 rz hz) (fun sz E => s_X12_woods_b28 sz.1 sz.2.1 sz.2.2.1 sz.2.2.2.1 sz.2.2.2.2.1 sz.2.2.2.2.2 E G) (fun sz sz2 E ih => s_X12_woods_b28 sz.1 sz.2.1 sz.2.2.1 sz.2.2.2.1 sz.2.2.2.2.1 sz.2.2.2.2.2 E ih) (x1, x2, x3, x4, x5, h) E
noncomputable def m_X12_woods (h : qa_M) : Option qa_M :=
  qbn (m_X12_spotX (0 : Int32) h) (fun (c2 : Int32) (h2 : qa_M) =>
  qbd c2 (fun v5 : Int32 =>
  qbn (m_X12_spotY (0 : Int32) h2) (fun (c8 : Int32) (h8 : qa_M) =>
  qbd c8 (fun v11 : Int32 =>
  qbn (m_X12_spotX v5 h8) (fun (c14 : Int32) (h14 : qa_M) =>
  qbd c14 (fun v17 : Int32 =>
  qbn (m_X12_spotY v11 h14) (fun (c20 : Int32) (h20 : qa_M) =>
  qbd c20 (fun v23 : Int32 =>
  qbd (0 : Int32) (fun v26 : Int32 =>
  f_X12_woods_b28_loop v5 v11 v17 v23 v26 h20)))))))))
set_option maxRecDepth 20000 in
theorem c_X12_woods {l : Launch} {g : qa_G} {d : Nat} (h : qa_M) {h1 : qa_M} (E : m_X12_woods h = some h1) : qt_Met l g (yX12_woods, cX12_woods, 6, none) (d + 5) 0 [.ref (g.1 + 119)] h none h1 := by
  refine qt_Met.of (plainFor_of_name (by decide)) (Nat.le_of_ble_eq_true rfl) ?_
  have G : qg_v none h1 (h1) := ⟨rfl, rfl⟩
  unfold m_X12_woods at E
  refine qt_aload_n 0 dX12_woods_0 rfl rfl ?_
  refine qt_iconst dX12_woods_1 ci_0 ?_
  obtain ⟨c2, h2, e2, E⟩ := qbn_el E
  refine qt_callVi (b2 := 0) [.int (0 : Int32)] (c_X12_spotX (0 : Int32) h e2) cv_RX12_339 (wl_119 h) rfl rfl rfl (Nat.le_of_ble_eq_true rfl) (Nat.le_of_ble_eq_true rfl) dX12_woods_2 ?_
  refine qt_istore_n (fun v5 => [(1, .int v5), (0, .ref (g.1 + 119))]) dX12_woods_5 rfl (Nat.le_of_ble_eq_true rfl) (fun _ => rfl) E (fun v5 E => ?_)
  refine qt_aload_n 1 dX12_woods_6 rfl rfl ?_
  refine qt_iconst dX12_woods_7 ci_0 ?_
  obtain ⟨c8, h8, e8, E⟩ := qbn_el E
  refine qt_callVi (b2 := 0) [.int (0 : Int32)] (c_X12_spotY (0 : Int32) h2 e8) cv_RX12_342 (wl_119 h2) rfl rfl rfl (Nat.le_of_ble_eq_true rfl) (Nat.le_of_ble_eq_true rfl) dX12_woods_8 ?_
  refine qt_istore_n (fun v11 => [(2, .int v11), (1, .int v5), (0, .ref (g.1 + 119))]) dX12_woods_11 rfl (Nat.le_of_ble_eq_true rfl) (fun _ => rfl) E (fun v11 E => ?_)
  refine qt_aload_n 2 dX12_woods_12 rfl rfl ?_
  refine qt_iload_n 1 dX12_woods_13 rfl rfl ?_
  obtain ⟨c14, h14, e14, E⟩ := qbn_el E
  refine qt_callVi (b2 := 0) [.int v5] (c_X12_spotX v5 h8 e14) cv_RX12_339 (wl_119 h8) rfl rfl rfl (Nat.le_of_ble_eq_true rfl) (Nat.le_of_ble_eq_true rfl) dX12_woods_14 ?_
  refine qt_istore_n (fun v17 => [(3, .int v17), (2, .int v11), (1, .int v5), (0, .ref (g.1 + 119))]) dX12_woods_17 rfl (Nat.le_of_ble_eq_true rfl) (fun _ => rfl) E (fun v17 E => ?_)
  refine qt_aload_n 3 dX12_woods_18 rfl rfl ?_
  refine qt_iload_n 1 dX12_woods_19 rfl rfl ?_
  obtain ⟨c20, h20, e20, E⟩ := qbn_el E
  refine qt_callVi (b2 := 0) [.int v11] (c_X12_spotY v11 h14 e20) cv_RX12_342 (wl_119 h14) rfl rfl rfl (Nat.le_of_ble_eq_true rfl) (Nat.le_of_ble_eq_true rfl) dX12_woods_20 ?_
  refine qt_istore (fun v23 => [(4, .int v23), (3, .int v17), (2, .int v11), (1, .int v5), (0, .ref (g.1 + 119))]) dX12_woods_23 (Nat.le_of_ble_eq_true rfl) (fun _ => rfl) E (fun v23 E => ?_)
  refine qt_iconst dX12_woods_25 ci_0 ?_
  refine qt_istore (fun v26 => [(5, .int v26), (4, .int v23), (3, .int v17), (2, .int v11), (1, .int v5), (0, .ref (g.1 + 119))]) dX12_woods_26 (Nat.le_of_ble_eq_true rfl) (fun _ => rfl) E (fun v26 E => ?_)
  exact qt_sub _ [5, 4, 3, 2, 1, 0] rfl ((s_X12_woods_b28_loop v5 v11 v17 v23 v26 h20 E G))
noncomputable def f_X12_isNewHill_b33 (x1 : Int32) (x3 : Int32) (s0 : Int32) (h : qa_M) : Option ((Int32 × Int32 × Int32 × qa_M) ⊕ (Int32 × qa_M)) :=
  qbd s0 (fun v33 : Int32 =>
  qbd (x3 + (1 : Int32)) (fun v34 : Int32 =>
  some (.inl (x1, v33, v34, h))))
set_option maxRecDepth 20000 in
theorem s_X12_isNewHill_b33 {l : Launch} {g : qa_G} {d : Nat} {rz : Option Value} {hz : qa_M} (x1 : Int32) (x3 : Int32) (s0 : Int32) (h : qa_M) {z : ((Int32 × Int32 × Int32 × qa_M) ⊕ (Int32 × qa_M))} (E : f_X12_isNewHill_b33 x1 x3 s0 h = some z) (G : (Sum.elim (fun (sz : Int32 × Int32 × Int32 × qa_M) => qt_At l g (yX12_isNewHill, cX12_isNewHill, 4, (some .boolean)) d 0 0 4 [(0, .ref (g.1 + 119)), (1, .int sz.1), (2, .int sz.2.1), (3, .int sz.2.2.1)] [] sz.2.2.2 rz hz) (qg_i rz hz)) z) : qt_At l g (yX12_isNewHill, cX12_isNewHill, 4, (some .boolean)) d 0 0 33 [(0, .ref (g.1 + 119)), (1, .int x1), (3, .int x3)] [.int s0] h rz hz := by
  unfold f_X12_isNewHill_b33 at E
  refine qt_istore_n (fun v33 => [(2, .int v33), (0, .ref (g.1 + 119)), (1, .int x1), (3, .int x3)]) dX12_isNewHill_33 rfl (Nat.le_of_ble_eq_true rfl) (fun _ => rfl) E (fun v33 E => ?_)
  refine qt_iinc 3 (fun v34 => [(3, .int v34), (2, .int v33), (0, .ref (g.1 + 119)), (1, .int x1)]) dX12_isNewHill_34 rfl ci_1 (Nat.le_of_ble_eq_true rfl) (fun _ => rfl) E (fun v34 E => ?_)
  refine qt_goto 4 dX12_isNewHill_37 (by decide) ?_
  cases E
  exact qt_sub _ [2, 3, 1, 0] rfl (G)
noncomputable def f_X12_isNewHill_b28 (x1 : Int32) (x3 : Int32) (h : qa_M) : Option ((Int32 × Int32 × Int32 × qa_M) ⊕ (Int32 × qa_M)) :=
  f_X12_isNewHill_b33 x1 x3 (1 : Int32) h
set_option maxRecDepth 20000 in
theorem s_X12_isNewHill_b28 {l : Launch} {g : qa_G} {d : Nat} {rz : Option Value} {hz : qa_M} (x1 : Int32) (x3 : Int32) (h : qa_M) {z : ((Int32 × Int32 × Int32 × qa_M) ⊕ (Int32 × qa_M))} (E : f_X12_isNewHill_b28 x1 x3 h = some z) (G : (Sum.elim (fun (sz : Int32 × Int32 × Int32 × qa_M) => qt_At l g (yX12_isNewHill, cX12_isNewHill, 4, (some .boolean)) d 0 0 4 [(0, .ref (g.1 + 119)), (1, .int sz.1), (2, .int sz.2.1), (3, .int sz.2.2.1)] [] sz.2.2.2 rz hz) (qg_i rz hz)) z) : qt_At l g (yX12_isNewHill, cX12_isNewHill, 4, (some .boolean)) d 0 0 28 [(0, .ref (g.1 + 119)), (1, .int x1), (3, .int x3)] [] h rz hz := by
  unfold f_X12_isNewHill_b28 at E
  refine qt_iconst dX12_isNewHill_28 ci_1 ?_
  refine qt_goto 33 dX12_isNewHill_29 (by decide) ?_
  exact qt_sub _ [0, 1, 2] rfl ((s_X12_isNewHill_b33 x1 x3 (1 : Int32) h E G))
noncomputable def f_X12_isNewHill_b4 (x1 : Int32) (x2 : Int32) (x3 : Int32) (h : qa_M) : Option ((Int32 × Int32 × Int32 × qa_M) ⊕ (Int32 × qa_M)) :=
  qck (2 : Int32) 5 (
  if (h.1 132 (2 : Int32).toNatClampNeg) ≤ x3 then (
   qpr (x2 = 0 ∨ x2 = 1) (
   qup (some (x2, h))))
  else (
   if x2 = 0 then (
    qck x3 8 (
    if (h.1 134 x3.toNatClampNeg) = x1 then (
     f_X12_isNewHill_b28 x1 x3 h)
    else (
     f_X12_isNewHill_b33 x1 x3 (0 : Int32) h)))
   else (
    f_X12_isNewHill_b28 x1 x3 h)))
set_option maxRecDepth 20000 in
theorem s_X12_isNewHill_b4 {l : Launch} {g : qa_G} {d : Nat} {rz : Option Value} {hz : qa_M} (x1 : Int32) (x2 : Int32) (x3 : Int32) (h : qa_M) {z : ((Int32 × Int32 × Int32 × qa_M) ⊕ (Int32 × qa_M))} (E : f_X12_isNewHill_b4 x1 x2 x3 h = some z) (G : (Sum.elim (fun (sz : Int32 × Int32 × Int32 × qa_M) => qt_At l g (yX12_isNewHill, cX12_isNewHill, 4, (some .boolean)) d 0 0 4 [(0, .ref (g.1 + 119)), (1, .int sz.1), (2, .int sz.2.1), (3, .int sz.2.2.1)] [] sz.2.2.2 rz hz) (qg_i rz hz)) z) : qt_At l g (yX12_isNewHill, cX12_isNewHill, 4, (some .boolean)) d 0 0 4 [(0, .ref (g.1 + 119)), (1, .int x1), (2, .int x2), (3, .int x3)] [] h rz hz := by
  unfold f_X12_isNewHill_b4 at E
  refine qt_iload_n 3 dX12_isNewHill_4 rfl rfl ?_
  refine qt_aload_n 0 dX12_isNewHill_5 rfl rfl ?_
  refine qt_getS 132 (wl_119 h) fe_RX12_46 rfl dX12_isNewHill_6 ?_
  refine qt_iconst dX12_isNewHill_9 ci_2 ?_
  refine qt_iald (wl_132 h) dX12_isNewHill_10 E (fun E => ?_)
  refine qt_icmp_ge 40 dX12_isNewHill_11 (by decide) E (fun E => ?_) (fun E => ?_)
  · refine qt_iload_n 2 dX12_isNewHill_40 rfl rfl ?_
    obtain ⟨z41, E⟩ := qpr_el E
    obtain ⟨z0_, E, G⟩ := qup_g E G
    exact qt_zreturn rfl z41 (Nat.le_of_ble_eq_true rfl) dX12_isNewHill_41 E G
  · refine qt_iload_n 2 dX12_isNewHill_14 rfl rfl ?_
    refine qt_if_ne 28 dX12_isNewHill_15 (by decide) E (fun E => ?_) (fun E => ?_)
    · exact qt_sub _ [0, 1, 3] rfl ((s_X12_isNewHill_b28 x1 x3 h E G))
    · refine qt_aload_n 0 dX12_isNewHill_18 rfl rfl ?_
      refine qt_getS 134 (wl_119 h) fe_RX12_52 rfl dX12_isNewHill_19 ?_
      refine qt_iload_n 3 dX12_isNewHill_22 rfl rfl ?_
      refine qt_iald (wl_134 h) dX12_isNewHill_23 E (fun E => ?_)
      refine qt_iload_n 1 dX12_isNewHill_24 rfl rfl ?_
      refine qt_icmp_ne 32 dX12_isNewHill_25 (by decide) E (fun E => ?_) (fun E => ?_)
      · refine qt_iconst dX12_isNewHill_32 ci_0 ?_
        exact qt_sub _ [0, 1, 3] rfl ((s_X12_isNewHill_b33 x1 x3 (0 : Int32) h E G))
      · exact qt_sub _ [0, 1, 3] rfl ((s_X12_isNewHill_b28 x1 x3 h E G))
noncomputable def f_X12_isNewHill_b4_loop (x1 : Int32) (x2 : Int32) (x3 : Int32) (h : qa_M) : Option (Int32 × qa_M) := qlp (fun sz : Int32 × Int32 × Int32 × qa_M => f_X12_isNewHill_b4 sz.1 sz.2.1 sz.2.2.1 sz.2.2.2) (x1, x2, x3, h)
theorem s_X12_isNewHill_b4_loop {l : Launch} {g : qa_G} {d : Nat} {rz : Option Value} {hz : qa_M} (x1 : Int32) (x2 : Int32) (x3 : Int32) (h : qa_M) {z : (Int32 × qa_M)} (E : f_X12_isNewHill_b4_loop x1 x2 x3 h = some z) (G : (qg_i rz hz) z) : qt_At l g (yX12_isNewHill, cX12_isNewHill, 4, (some .boolean)) d 0 0 4 [(0, .ref (g.1 + 119)), (1, .int x1), (2, .int x2), (3, .int x3)] [] h rz hz :=
  qlp_ind (fun sz : Int32 × Int32 × Int32 × qa_M => qt_At l g (yX12_isNewHill, cX12_isNewHill, 4, (some .boolean)) d 0 0 4 [(0, .ref (g.1 + 119)), (1, .int sz.1), (2, .int sz.2.1), (3, .int sz.2.2.1)] [] sz.2.2.2 rz hz) (fun sz E => s_X12_isNewHill_b4 sz.1 sz.2.1 sz.2.2.1 sz.2.2.2 E G) (fun sz sz2 E ih => s_X12_isNewHill_b4 sz.1 sz.2.1 sz.2.2.1 sz.2.2.2 E ih) (x1, x2, x3, h) E
noncomputable def m_X12_isNewHill (x1 : Int32) (h : qa_M) : Option (Int32 × qa_M) :=
  qbd (0 : Int32) (fun v1 : Int32 =>
  qbd (0 : Int32) (fun v3 : Int32 =>
  f_X12_isNewHill_b4_loop x1 v1 v3 h))
set_option maxRecDepth 20000 in
theorem c_X12_isNewHill {l : Launch} {g : qa_G} {d : Nat} (x1 : Int32) (h : qa_M) {c : Int32} {h1 : qa_M} (E : m_X12_isNewHill x1 h = some (c, h1)) : qt_Met l g (yX12_isNewHill, cX12_isNewHill, 4, (some .boolean)) d 0 [.ref (g.1 + 119), .int x1] h (some (.int c)) h1 := by
  refine qt_Met.of (plainFor_of_name (by decide)) (Nat.le_of_ble_eq_true rfl) ?_
  have G : qg_i (some (.int c)) h1 ((c, h1)) := ⟨rfl, rfl⟩
  unfold m_X12_isNewHill at E
  refine qt_iconst dX12_isNewHill_0 ci_0 ?_
  refine qt_istore_n (fun v1 => [(2, .int v1), (0, .ref (g.1 + 119)), (1, .int x1)]) dX12_isNewHill_1 rfl (Nat.le_of_ble_eq_true rfl) (fun _ => rfl) E (fun v1 E => ?_)
  refine qt_iconst dX12_isNewHill_2 ci_0 ?_
  refine qt_istore_n (fun v3 => [(3, .int v3), (2, .int v1), (0, .ref (g.1 + 119)), (1, .int x1)]) dX12_isNewHill_3 rfl (Nat.le_of_ble_eq_true rfl) (fun _ => rfl) E (fun v3 E => ?_)
  exact qt_sub _ [2, 3, 1, 0] rfl ((s_X12_isNewHill_b4_loop x1 v1 v3 h E G))
noncomputable def f_X12_hill_b47 (x2 : Int32) (x3 : Int32) (h : qa_M) : Option qa_M :=
  qck (2 : Int32) 5 (
  qck (h.1 132 (2 : Int32).toNatClampNeg) 8 (
  qbd (qw_I h 134 (h.1 132 (2 : Int32).toNatClampNeg).toNatClampNeg (((6 : Int32) * x3) + x2)) (fun h63 : qa_M =>
  qck (2 : Int32) 5 (
  qbn (m_X12_amount (1 : Int32) (9 : Int32) h63) (fun (c78 : Int32) (h78 : qa_M) =>
  qck (h63.1 132 (2 : Int32).toNatClampNeg) 8 (
  qbd (qw_I h78 135 (h63.1 132 (2 : Int32).toNatClampNeg).toNatClampNeg c78) (fun h81 : qa_M =>
  qck (2 : Int32) 5 (
  qck (2 : Int32) 5 (
  qbd (qw_I h81 132 (2 : Int32).toNatClampNeg ((h81.1 132 (2 : Int32).toNatClampNeg) + (1 : Int32))) (fun h91 : qa_M =>
  some h91))))))))))
set_option maxRecDepth 20000 in
theorem s_X12_hill_b47 {l : Launch} {g : qa_G} {d : Nat} {rz : Option Value} {hz : qa_M} (x2 : Int32) (x3 : Int32) (h : qa_M) {z : qa_M} (E : f_X12_hill_b47 x2 x3 h = some z) (G : (qg_v rz hz) z) : qt_At l g (yX12_hill, cX12_hill, 4, none) (d + 5) 0 0 47 [(0, .ref (g.1 + 119)), (2, .int x2), (3, .int x3)] [] h rz hz := by
  unfold f_X12_hill_b47 at E
  refine qt_aload_n 0 dX12_hill_47 rfl rfl ?_
  refine qt_getS 134 (wl_119 h) fe_RX12_52 rfl dX12_hill_48 ?_
  refine qt_aload_n 0 dX12_hill_51 rfl rfl ?_
  refine qt_getS 132 (wl_119 h) fe_RX12_46 rfl dX12_hill_52 ?_
  refine qt_iconst dX12_hill_55 ci_2 ?_
  refine qt_iald (wl_132 h) dX12_hill_56 E (fun E => ?_)
  refine qt_bipush dX12_hill_57 cb_6 ?_
  refine qt_iload_n 2 dX12_hill_59 rfl rfl ?_
  refine qt_imul dX12_hill_60 ?_
  refine qt_iload_n 1 dX12_hill_61 rfl rfl ?_
  refine qt_iadd dX12_hill_62 ?_
  refine qt_iast (wl_134 h) dX12_hill_63 E (fun h63 E => ?_)
  refine qt_aload_n 0 dX12_hill_64 rfl rfl ?_
  refine qt_getS 135 (wl_119 h63) fe_RX12_55 rfl dX12_hill_65 ?_
  refine qt_aload_n 0 dX12_hill_68 rfl rfl ?_
  refine qt_getS 132 (wl_119 h63) fe_RX12_46 rfl dX12_hill_69 ?_
  refine qt_iconst dX12_hill_72 ci_2 ?_
  refine qt_iald (wl_132 h63) dX12_hill_73 E (fun E => ?_)
  refine qt_aload_n 0 dX12_hill_74 rfl rfl ?_
  refine qt_iconst dX12_hill_75 ci_1 ?_
  refine qt_bipush dX12_hill_76 cb_9 ?_
  obtain ⟨c78, h78, e78, E⟩ := qbn_el E
  refine qt_callVi (b2 := 0) [.int (1 : Int32), .int (9 : Int32)] (c_X12_amount (1 : Int32) (9 : Int32) h63 e78) cv_RX12_336 (wl_119 h63) rfl rfl rfl (Nat.le_of_ble_eq_true rfl) (Nat.le_of_ble_eq_true rfl) dX12_hill_78 ?_
  refine qt_iast (wl_135 h78) dX12_hill_81 E (fun h81 E => ?_)
  refine qt_aload_n 0 dX12_hill_82 rfl rfl ?_
  refine qt_getS 132 (wl_119 h81) fe_RX12_46 rfl dX12_hill_83 ?_
  refine qt_iconst dX12_hill_86 ci_2 ?_
  refine qt_dup2_11 dX12_hill_87 rfl rfl ?_
  refine qt_iald (wl_132 h81) dX12_hill_88 E (fun E => ?_)
  refine qt_iconst dX12_hill_89 ci_1 ?_
  refine qt_iadd dX12_hill_90 ?_
  refine qt_iast (wl_132 h81) dX12_hill_91 E (fun h91 E => ?_)
  exact qt_vreturn rfl (Nat.le_of_ble_eq_true rfl) dX12_hill_92 E G
noncomputable def m_X12_hill (h : qa_M) : Option qa_M :=
  qbv (m_X12_blanks h) (fun h1 : qa_M =>
  qbd (h1.1 119 21) (fun v8 : Int32 =>
  qbn (m_X12_spotX (0 : Int32) h1) (fun (c11 : Int32) (h11 : qa_M) =>
  qbd c11 (fun v14 : Int32 =>
  qbn (m_X12_spotY (0 : Int32) h11) (fun (c17 : Int32) (h17 : qa_M) =>
  qbd c17 (fun v20 : Int32 =>
  if (h17.1 119 22) = 0 then (
   qbn (m_X12_isNewHill (((6 : Int32) * v20) + v14) h17) (fun (c35 : Int32) (h35 : qa_M) =>
   if c35 = 0 then (
    f_X12_hill_b47 v14 v20 h35)
   else (
    qbv (m_X12_fails (5 : Int32) v8 h35) (fun h44 : qa_M =>
    f_X12_hill_b47 v14 v20 h44))))
  else (
   f_X12_hill_b47 v14 v20 h17)))))))
set_option maxRecDepth 20000 in
theorem c_X12_hill {l : Launch} {g : qa_G} {d : Nat} (h : qa_M) {h1 : qa_M} (E : m_X12_hill h = some h1) : qt_Met l g (yX12_hill, cX12_hill, 4, none) (d + 5) 0 [.ref (g.1 + 119)] h none h1 := by
  refine qt_Met.of (plainFor_of_name (by decide)) (Nat.le_of_ble_eq_true rfl) ?_
  have G : qg_v none h1 (h1) := ⟨rfl, rfl⟩
  unfold m_X12_hill at E
  refine qt_aload_n 0 dX12_hill_0 rfl rfl ?_
  obtain ⟨h1, e1, E⟩ := qbv_el E
  refine qt_callVv (b2 := 0) [] (c_X12_blanks h e1) cv_RX12_263 (wl_119 h) rfl rfl rfl (Nat.le_of_ble_eq_true rfl) (Nat.le_of_ble_eq_true rfl) dX12_hill_1 ?_
  refine qt_aload_n 0 dX12_hill_4 rfl rfl ?_
  refine qt_getI (wl_119 h1) fe_RX12_243 rfl dX12_hill_5 ?_
  refine qt_istore_n (fun v8 => [(1, .int v8), (0, .ref (g.1 + 119))]) dX12_hill_8 rfl (Nat.le_of_ble_eq_true rfl) (fun _ => rfl) E (fun v8 E => ?_)
  refine qt_aload_n 1 dX12_hill_9 rfl rfl ?_
  refine qt_iconst dX12_hill_10 ci_0 ?_
  obtain ⟨c11, h11, e11, E⟩ := qbn_el E
  refine qt_callVi (b2 := 0) [.int (0 : Int32)] (c_X12_spotX (0 : Int32) h1 e11) cv_RX12_339 (wl_119 h1) rfl rfl rfl (Nat.le_of_ble_eq_true rfl) (Nat.le_of_ble_eq_true rfl) dX12_hill_11 ?_
  refine qt_istore_n (fun v14 => [(2, .int v14), (1, .int v8), (0, .ref (g.1 + 119))]) dX12_hill_14 rfl (Nat.le_of_ble_eq_true rfl) (fun _ => rfl) E (fun v14 E => ?_)
  refine qt_aload_n 2 dX12_hill_15 rfl rfl ?_
  refine qt_iconst dX12_hill_16 ci_0 ?_
  obtain ⟨c17, h17, e17, E⟩ := qbn_el E
  refine qt_callVi (b2 := 0) [.int (0 : Int32)] (c_X12_spotY (0 : Int32) h11 e17) cv_RX12_342 (wl_119 h11) rfl rfl rfl (Nat.le_of_ble_eq_true rfl) (Nat.le_of_ble_eq_true rfl) dX12_hill_17 ?_
  refine qt_istore_n (fun v20 => [(3, .int v20), (2, .int v14), (1, .int v8), (0, .ref (g.1 + 119))]) dX12_hill_20 rfl (Nat.le_of_ble_eq_true rfl) (fun _ => rfl) E (fun v20 E => ?_)
  refine qt_aload_n 3 dX12_hill_21 rfl rfl ?_
  refine qt_getI (wl_119 h17) fe_RX12_240 rfl dX12_hill_22 ?_
  refine qt_if_ne 47 dX12_hill_25 (by decide) E (fun E => ?_) (fun E => ?_)
  · exact qt_sub _ [3, 1, 0] rfl ((s_X12_hill_b47 v14 v20 h17 E G))
  · refine qt_aload_n 3 dX12_hill_28 rfl rfl ?_
    refine qt_bipush dX12_hill_29 cb_6 ?_
    refine qt_iload_n 0 dX12_hill_31 rfl rfl ?_
    refine qt_imul dX12_hill_32 ?_
    refine qt_iload_n 1 dX12_hill_33 rfl rfl ?_
    refine qt_iadd dX12_hill_34 ?_
    obtain ⟨c35, h35, e35, E⟩ := qbn_el E
    refine qt_callVi (b2 := 0) [.int (((6 : Int32) * v20) + v14)] (c_X12_isNewHill (((6 : Int32) * v20) + v14) h17 e35) cv_RX12_345 (wl_119 h17) rfl rfl rfl (Nat.le_of_ble_eq_true rfl) (Nat.le_of_ble_eq_true rfl) dX12_hill_35 ?_
    refine qt_if_eq 47 dX12_hill_38 (by decide) E (fun E => ?_) (fun E => ?_)
    · exact qt_sub _ [3, 1, 0] rfl ((s_X12_hill_b47 v14 v20 h35 E G))
    · refine qt_aload_n 3 dX12_hill_41 rfl rfl ?_
      refine qt_iconst dX12_hill_42 ci_5 ?_
      refine qt_iload_n 2 dX12_hill_43 rfl rfl ?_
      obtain ⟨h44, e44, E⟩ := qbv_el E
      refine qt_callVv (b2 := 0) [.int (5 : Int32), .int v8] (c_X12_fails (5 : Int32) v8 h35 e44) cv_RX12_279 (wl_119 h35) rfl rfl rfl (Nat.le_of_ble_eq_true rfl) (Nat.le_of_ble_eq_true rfl) dX12_hill_44 ?_
      exact qt_sub _ [3, 1, 0] rfl ((s_X12_hill_b47 v14 v20 h44 E G))
noncomputable def f_X12_road_b60 (x2 : Int32) (x3 : Int32) (x4 : Int32) (x5 : Int32) (h : qa_M) : Option qa_M :=
  qck (3 : Int32) 5 (
  qck (h.1 132 (3 : Int32).toNatClampNeg) 6 (
  qbd (qw_I h 136 (h.1 132 (3 : Int32).toNatClampNeg).toNatClampNeg (((6 : Int32) * x3) + x2)) (fun h76 : qa_M =>
  qck (3 : Int32) 5 (
  qck (h76.1 132 (3 : Int32).toNatClampNeg) 6 (
  qbd (qw_I h76 137 (h76.1 132 (3 : Int32).toNatClampNeg).toNatClampNeg (((6 : Int32) * x5) + x4)) (fun h95 : qa_M =>
  qck (3 : Int32) 5 (
  qck (3 : Int32) 5 (
  qbd (qw_I h95 132 (3 : Int32).toNatClampNeg ((h95.1 132 (3 : Int32).toNatClampNeg) + (1 : Int32))) (fun h105 : qa_M =>
  some h105)))))))))
set_option maxRecDepth 20000 in
theorem s_X12_road_b60 {l : Launch} {g : qa_G} {d : Nat} {rz : Option Value} {hz : qa_M} (x2 : Int32) (x3 : Int32) (x4 : Int32) (x5 : Int32) (h : qa_M) {z : qa_M} (E : f_X12_road_b60 x2 x3 x4 x5 h = some z) (G : (qg_v rz hz) z) : qt_At l g (yX12_road, cX12_road, 6, none) (d + 5) 0 0 60 [(0, .ref (g.1 + 119)), (2, .int x2), (3, .int x3), (4, .int x4), (5, .int x5)] [] h rz hz := by
  unfold f_X12_road_b60 at E
  refine qt_aload_n 0 dX12_road_60 rfl rfl ?_
  refine qt_getS 136 (wl_119 h) fe_RX12_58 rfl dX12_road_61 ?_
  refine qt_aload_n 0 dX12_road_64 rfl rfl ?_
  refine qt_getS 132 (wl_119 h) fe_RX12_46 rfl dX12_road_65 ?_
  refine qt_iconst dX12_road_68 ci_3 ?_
  refine qt_iald (wl_132 h) dX12_road_69 E (fun E => ?_)
  refine qt_bipush dX12_road_70 cb_6 ?_
  refine qt_iload_n 2 dX12_road_72 rfl rfl ?_
  refine qt_imul dX12_road_73 ?_
  refine qt_iload_n 1 dX12_road_74 rfl rfl ?_
  refine qt_iadd dX12_road_75 ?_
  refine qt_iast (wl_136 h) dX12_road_76 E (fun h76 E => ?_)
  refine qt_aload_n 0 dX12_road_77 rfl rfl ?_
  refine qt_getS 137 (wl_119 h76) fe_RX12_61 rfl dX12_road_78 ?_
  refine qt_aload_n 0 dX12_road_81 rfl rfl ?_
  refine qt_getS 132 (wl_119 h76) fe_RX12_46 rfl dX12_road_82 ?_
  refine qt_iconst dX12_road_85 ci_3 ?_
  refine qt_iald (wl_132 h76) dX12_road_86 E (fun E => ?_)
  refine qt_bipush dX12_road_87 cb_6 ?_
  refine qt_iload 4 dX12_road_89 rfl ?_
  refine qt_imul dX12_road_91 ?_
  refine qt_iload 3 dX12_road_92 rfl ?_
  refine qt_iadd dX12_road_94 ?_
  refine qt_iast (wl_137 h76) dX12_road_95 E (fun h95 E => ?_)
  refine qt_aload_n 0 dX12_road_96 rfl rfl ?_
  refine qt_getS 132 (wl_119 h95) fe_RX12_46 rfl dX12_road_97 ?_
  refine qt_iconst dX12_road_100 ci_3 ?_
  refine qt_dup2_11 dX12_road_101 rfl rfl ?_
  refine qt_iald (wl_132 h95) dX12_road_102 E (fun E => ?_)
  refine qt_iconst dX12_road_103 ci_1 ?_
  refine qt_iadd dX12_road_104 ?_
  refine qt_iast (wl_132 h95) dX12_road_105 E (fun h105 E => ?_)
  exact qt_vreturn rfl (Nat.le_of_ble_eq_true rfl) dX12_road_106 E G
noncomputable def m_X12_road (h : qa_M) : Option qa_M :=
  qbv (m_X12_blanks h) (fun h1 : qa_M =>
  qbd (h1.1 119 21) (fun v8 : Int32 =>
  qbn (m_X12_spotX (0 : Int32) h1) (fun (c11 : Int32) (h11 : qa_M) =>
  qbd c11 (fun v14 : Int32 =>
  qbn (m_X12_spotY (0 : Int32) h11) (fun (c17 : Int32) (h17 : qa_M) =>
  qbd c17 (fun v20 : Int32 =>
  qbn (m_X12_spotX v14 h17) (fun (c23 : Int32) (h23 : qa_M) =>
  qbd c23 (fun v26 : Int32 =>
  qbn (m_X12_spotY v20 h23) (fun (c30 : Int32) (h30 : qa_M) =>
  qbd c30 (fun v33 : Int32 =>
  if (h30.1 119 22) = 0 then (
   if v14 = v26 then (
    f_X12_road_b60 v14 v20 v26 v33 h30)
   else (
    if v20 = v33 then (
     f_X12_road_b60 v14 v20 v26 v33 h30)
    else (
     qbv (m_X12_fails (5 : Int32) v8 h30) (fun h57 : qa_M =>
     f_X12_road_b60 v14 v20 v26 v33 h57))))
  else (
   f_X12_road_b60 v14 v20 v26 v33 h30)))))))))))
set_option maxRecDepth 20000 in
theorem c_X12_road {l : Launch} {g : qa_G} {d : Nat} (h : qa_M) {h1 : qa_M} (E : m_X12_road h = some h1) : qt_Met l g (yX12_road, cX12_road, 6, none) (d + 5) 0 [.ref (g.1 + 119)] h none h1 := by
  refine qt_Met.of (plainFor_of_name (by decide)) (Nat.le_of_ble_eq_true rfl) ?_
  have G : qg_v none h1 (h1) := ⟨rfl, rfl⟩
  unfold m_X12_road at E
  refine qt_aload_n 0 dX12_road_0 rfl rfl ?_
  obtain ⟨h1, e1, E⟩ := qbv_el E
  refine qt_callVv (b2 := 0) [] (c_X12_blanks h e1) cv_RX12_263 (wl_119 h) rfl rfl rfl (Nat.le_of_ble_eq_true rfl) (Nat.le_of_ble_eq_true rfl) dX12_road_1 ?_
  refine qt_aload_n 0 dX12_road_4 rfl rfl ?_
  refine qt_getI (wl_119 h1) fe_RX12_243 rfl dX12_road_5 ?_
  refine qt_istore_n (fun v8 => [(1, .int v8), (0, .ref (g.1 + 119))]) dX12_road_8 rfl (Nat.le_of_ble_eq_true rfl) (fun _ => rfl) E (fun v8 E => ?_)
  refine qt_aload_n 1 dX12_road_9 rfl rfl ?_
  refine qt_iconst dX12_road_10 ci_0 ?_
  obtain ⟨c11, h11, e11, E⟩ := qbn_el E
  refine qt_callVi (b2 := 0) [.int (0 : Int32)] (c_X12_spotX (0 : Int32) h1 e11) cv_RX12_339 (wl_119 h1) rfl rfl rfl (Nat.le_of_ble_eq_true rfl) (Nat.le_of_ble_eq_true rfl) dX12_road_11 ?_
  refine qt_istore_n (fun v14 => [(2, .int v14), (1, .int v8), (0, .ref (g.1 + 119))]) dX12_road_14 rfl (Nat.le_of_ble_eq_true rfl) (fun _ => rfl) E (fun v14 E => ?_)
  refine qt_aload_n 2 dX12_road_15 rfl rfl ?_
  refine qt_iconst dX12_road_16 ci_0 ?_
  obtain ⟨c17, h17, e17, E⟩ := qbn_el E
  refine qt_callVi (b2 := 0) [.int (0 : Int32)] (c_X12_spotY (0 : Int32) h11 e17) cv_RX12_342 (wl_119 h11) rfl rfl rfl (Nat.le_of_ble_eq_true rfl) (Nat.le_of_ble_eq_true rfl) dX12_road_17 ?_
  refine qt_istore_n (fun v20 => [(3, .int v20), (2, .int v14), (1, .int v8), (0, .ref (g.1 + 119))]) dX12_road_20 rfl (Nat.le_of_ble_eq_true rfl) (fun _ => rfl) E (fun v20 E => ?_)
  refine qt_aload_n 3 dX12_road_21 rfl rfl ?_
  refine qt_iload_n 1 dX12_road_22 rfl rfl ?_
  obtain ⟨c23, h23, e23, E⟩ := qbn_el E
  refine qt_callVi (b2 := 0) [.int v14] (c_X12_spotX v14 h17 e23) cv_RX12_339 (wl_119 h17) rfl rfl rfl (Nat.le_of_ble_eq_true rfl) (Nat.le_of_ble_eq_true rfl) dX12_road_23 ?_
  refine qt_istore (fun v26 => [(4, .int v26), (3, .int v20), (2, .int v14), (1, .int v8), (0, .ref (g.1 + 119))]) dX12_road_26 (Nat.le_of_ble_eq_true rfl) (fun _ => rfl) E (fun v26 E => ?_)
  refine qt_aload_n 4 dX12_road_28 rfl rfl ?_
  refine qt_iload_n 1 dX12_road_29 rfl rfl ?_
  obtain ⟨c30, h30, e30, E⟩ := qbn_el E
  refine qt_callVi (b2 := 0) [.int v20] (c_X12_spotY v20 h23 e30) cv_RX12_342 (wl_119 h23) rfl rfl rfl (Nat.le_of_ble_eq_true rfl) (Nat.le_of_ble_eq_true rfl) dX12_road_30 ?_
  refine qt_istore (fun v33 => [(5, .int v33), (4, .int v26), (3, .int v20), (2, .int v14), (1, .int v8), (0, .ref (g.1 + 119))]) dX12_road_33 (Nat.le_of_ble_eq_true rfl) (fun _ => rfl) E (fun v33 E => ?_)
  refine qt_aload_n 5 dX12_road_35 rfl rfl ?_
  refine qt_getI (wl_119 h30) fe_RX12_240 rfl dX12_road_36 ?_
  refine qt_if_ne 60 dX12_road_39 (by decide) E (fun E => ?_) (fun E => ?_)
  · exact qt_sub _ [5, 3, 2, 1, 0] rfl ((s_X12_road_b60 v14 v20 v26 v33 h30 E G))
  · refine qt_iload_n 3 dX12_road_42 rfl rfl ?_
    refine qt_iload 1 dX12_road_43 rfl ?_
    refine qt_icmp_eq 60 dX12_road_45 (by decide) E (fun E => ?_) (fun E => ?_)
    · exact qt_sub _ [5, 3, 2, 1, 0] rfl ((s_X12_road_b60 v14 v20 v26 v33 h30 E G))
    · refine qt_iload_n 2 dX12_road_48 rfl rfl ?_
      refine qt_iload 0 dX12_road_49 rfl ?_
      refine qt_icmp_eq 60 dX12_road_51 (by decide) E (fun E => ?_) (fun E => ?_)
      · exact qt_sub _ [5, 3, 2, 1, 0] rfl ((s_X12_road_b60 v14 v20 v26 v33 h30 E G))
      · refine qt_aload_n 5 dX12_road_54 rfl rfl ?_
        refine qt_iconst dX12_road_55 ci_5 ?_
        refine qt_iload_n 4 dX12_road_56 rfl rfl ?_
        obtain ⟨h57, e57, E⟩ := qbv_el E
        refine qt_callVv (b2 := 0) [.int (5 : Int32), .int v8] (c_X12_fails (5 : Int32) v8 h30 e57) cv_RX12_279 (wl_119 h30) rfl rfl rfl (Nat.le_of_ble_eq_true rfl) (Nat.le_of_ble_eq_true rfl) dX12_road_57 ?_
        exact qt_sub _ [5, 3, 2, 1, 0] rfl ((s_X12_road_b60 v14 v20 v26 v33 h57 E G))
