noncomputable def f_X9_append_b3 (x1 : Int32) (x2 : Int32) (h : qa_M) : Option ((Int32 × Int32 × qa_M) ⊕ qa_M) :=
  if x2 < 0 then (
   qup (some h))
  else (
   if (400 : Int32) ≤ (h.1 1 1) then (
    qup (some h))
   else (
    qck (h.1 1 1) 400 (
    qbd (qw_I h 2 (h.1 1 1).toNatClampNeg ((q_iushr x1 x2) &&& (255 : Int32))) (fun h32 : qa_M =>
    qbd (qw_I h32 1 1 ((h32.1 1 1) + (1 : Int32))) (fun h40 : qa_M =>
    qbd (x2 + (-8 : Int32)) (fun v43 : Int32 =>
    some (.inl (x1, v43, h40))))))))
set_option maxRecDepth 20000 in
theorem s_X9_append_b3 {l : Launch} {g : qa_G} {d : Nat} {rz : Option Value} {hz : qa_M} (x1 : Int32) (x2 : Int32) (h : qa_M) {z : ((Int32 × Int32 × qa_M) ⊕ qa_M)} (E : f_X9_append_b3 x1 x2 h = some z) (G : (Sum.elim (fun (sz : Int32 × Int32 × qa_M) => qt_At l g (yX9_append, cX9_append, 3, none) d 0 0 3 [(0, .ref (g.1 + 1)), (1, .int sz.1), (2, .int sz.2.1)] [] sz.2.2 rz hz) (qg_v rz hz)) z) : qt_At l g (yX9_append, cX9_append, 3, none) d 0 0 3 [(0, .ref (g.1 + 1)), (1, .int x1), (2, .int x2)] [] h rz hz := by
  unfold f_X9_append_b3 at E
  refine qt_iload_n 2 dX9_append_3 rfl rfl ?_
  refine qt_if_lt 49 dX9_append_4 (by decide) E (fun E => ?_) (fun E => ?_)
  · obtain ⟨z0_, E, G⟩ := qup_g E G
    exact qt_vreturn rfl (Nat.le_of_ble_eq_true rfl) dX9_append_49 E G
  · refine qt_aload_n 0 dX9_append_7 rfl rfl ?_
    refine qt_getI (wl_1 h) fe_RX9_15 rfl dX9_append_8 ?_
    refine qt_sipush dX9_append_11 cs_400 ?_
    refine qt_icmp_ge 49 dX9_append_14 (by decide) E (fun E => ?_) (fun E => ?_)
    · obtain ⟨z0_, E, G⟩ := qup_g E G
      exact qt_vreturn rfl (Nat.le_of_ble_eq_true rfl) dX9_append_49 E G
    · refine qt_aload_n 0 dX9_append_17 rfl rfl ?_
      refine qt_getS 2 (wl_1 h) fe_RX9_11 rfl dX9_append_18 ?_
      refine qt_aload_n 0 dX9_append_21 rfl rfl ?_
      refine qt_getI (wl_1 h) fe_RX9_15 rfl dX9_append_22 ?_
      refine qt_iload_n 1 dX9_append_25 rfl rfl ?_
      refine qt_iload_n 2 dX9_append_26 rfl rfl ?_
      refine qt_iushr dX9_append_27 ?_
      refine qt_sipush dX9_append_28 cs_255 ?_
      refine qt_iand dX9_append_31 ?_
      refine qt_iast (wl_2 h) dX9_append_32 E (fun h32 E => ?_)
      refine qt_aload_n 0 dX9_append_33 rfl rfl ?_
      refine qt_dup dX9_append_34 rfl ?_
      refine qt_getI (wl_1 h32) fe_RX9_15 rfl dX9_append_35 ?_
      refine qt_iconst dX9_append_38 ci_1 ?_
      refine qt_iadd dX9_append_39 ?_
      refine qt_putI (wl_1 h32) fd_RX9_15 rfl rfl rfl dX9_append_40 E (fun h40 E => ?_)
      refine qt_iinc 2 (fun v43 => [(2, .int v43), (0, .ref (g.1 + 1)), (1, .int x1)]) dX9_append_43 rfl ci_m8 (Nat.le_of_ble_eq_true rfl) (fun _ => rfl) E (fun v43 E => ?_)
      refine qt_goto 3 dX9_append_46 (by decide) ?_
      cases E
      exact qt_sub _ [1, 2, 0] rfl (G)
noncomputable def f_X9_append_b3_loop (x1 : Int32) (x2 : Int32) (h : qa_M) : Option qa_M := qlp (fun sz : Int32 × Int32 × qa_M => f_X9_append_b3 sz.1 sz.2.1 sz.2.2) (x1, x2, h)
theorem s_X9_append_b3_loop {l : Launch} {g : qa_G} {d : Nat} {rz : Option Value} {hz : qa_M} (x1 : Int32) (x2 : Int32) (h : qa_M) {z : qa_M} (E : f_X9_append_b3_loop x1 x2 h = some z) (G : (qg_v rz hz) z) : qt_At l g (yX9_append, cX9_append, 3, none) d 0 0 3 [(0, .ref (g.1 + 1)), (1, .int x1), (2, .int x2)] [] h rz hz :=
  qlp_ind (fun sz : Int32 × Int32 × qa_M => qt_At l g (yX9_append, cX9_append, 3, none) d 0 0 3 [(0, .ref (g.1 + 1)), (1, .int sz.1), (2, .int sz.2.1)] [] sz.2.2 rz hz) (fun sz E => s_X9_append_b3 sz.1 sz.2.1 sz.2.2 E G) (fun sz sz2 E ih => s_X9_append_b3 sz.1 sz.2.1 sz.2.2 E ih) (x1, x2, h) E
noncomputable def m_X9_append (x1 : Int32) (h : qa_M) : Option qa_M :=
  qbd (24 : Int32) (fun v2 : Int32 =>
  f_X9_append_b3_loop x1 v2 h)
set_option maxRecDepth 20000 in
theorem c_X9_append {l : Launch} {g : qa_G} {d : Nat} (x1 : Int32) (h : qa_M) {h1 : qa_M} (E : m_X9_append x1 h = some h1) : qt_Met l g (yX9_append, cX9_append, 3, none) d 0 [.ref (g.1 + 1), .int x1] h none h1 := by
  refine qt_Met.of (plainFor_of_name (by decide)) (Nat.le_of_ble_eq_true rfl) ?_
  have G : qg_v none h1 (h1) := ⟨rfl, rfl⟩
  unfold m_X9_append at E
  refine qt_bipush dX9_append_0 cb_24 ?_
  refine qt_istore_n (fun v2 => [(2, .int v2), (0, .ref (g.1 + 1)), (1, .int x1)]) dX9_append_2 rfl (Nat.le_of_ble_eq_true rfl) (fun _ => rfl) E (fun v2 E => ?_)
  exact qt_sub _ [1, 2, 0] rfl ((s_X9_append_b3_loop x1 v2 h E G))
noncomputable def m_X11_feed (x1 : Int32) (x2 : Int32) (x3 : Int32) (x4 : Int32) (x5 : Int32) (h : qa_M) : Option (Int32 × qa_M) :=
  if ((h.1 1 1) + (20 : Int32)) ≤ (400 : Int32) then (
   qbv (m_X9_append x1 h) (fun h23 : qa_M =>
   qbv (m_X9_append x2 h23) (fun h31 : qa_M =>
   qbv (m_X9_append x3 h31) (fun h39 : qa_M =>
   qbv (m_X9_append x4 h39) (fun h48 : qa_M =>
   qbv (m_X9_append x5 h48) (fun h57 : qa_M =>
   some (h57.1 1 1, h57)))))))
  else (
   some ((-1 : Int32), h))
set_option maxRecDepth 20000 in
theorem c_X11_feed {l : Launch} {g : qa_G} {d : Nat} (x1 : Int32) (x2 : Int32) (x3 : Int32) (x4 : Int32) (x5 : Int32) (h : qa_M) {c : Int32} {h1 : qa_M} (E : m_X11_feed x1 x2 x3 x4 x5 h = some (c, h1)) : qt_Met l g (yX11_feed, cX11_feed, 6, (some .int)) (d + 1) 0 [.ref (g.1 + 0), .int x1, .int x2, .int x3, .int x4, .int x5] h (some (.int c)) h1 := by
  refine qt_Met.of (plainFor_of_name (by decide)) (Nat.le_of_ble_eq_true rfl) ?_
  have G : qg_i (some (.int c)) h1 ((c, h1)) := ⟨rfl, rfl⟩
  unfold m_X11_feed at E
  refine qt_aload_n 0 dX11_feed_0 rfl rfl ?_
  refine qt_getS 1 (wl_0 h) fe_RX11_10 rfl dX11_feed_1 ?_
  refine qt_getI (wl_1 h) fe_RX11_97 rfl dX11_feed_4 ?_
  refine qt_bipush dX11_feed_7 cb_20 ?_
  refine qt_iadd dX11_feed_9 ?_
  refine qt_sipush dX11_feed_10 cs_400 ?_
  refine qt_icmp_le 18 dX11_feed_13 (by decide) E (fun E => ?_) (fun E => ?_)
  · refine qt_aload_n 0 dX11_feed_18 rfl rfl ?_
    refine qt_getS 1 (wl_0 h) fe_RX11_10 rfl dX11_feed_19 ?_
    refine qt_iload_n 1 dX11_feed_22 rfl rfl ?_
    obtain ⟨h23, e23, E⟩ := qbv_el E
    refine qt_callVv (b2 := 0) [.int x1] (c_X9_append x1 h e23) cv_RX11_100 (wl_1 h) rfl rfl rfl (Nat.le_of_ble_eq_true rfl) (Nat.le_of_ble_eq_true rfl) dX11_feed_23 ?_
    refine qt_aload_n 0 dX11_feed_26 rfl rfl ?_
    refine qt_getS 1 (wl_0 h23) fe_RX11_10 rfl dX11_feed_27 ?_
    refine qt_iload_n 2 dX11_feed_30 rfl rfl ?_
    obtain ⟨h31, e31, E⟩ := qbv_el E
    refine qt_callVv (b2 := 0) [.int x2] (c_X9_append x2 h23 e31) cv_RX11_100 (wl_1 h23) rfl rfl rfl (Nat.le_of_ble_eq_true rfl) (Nat.le_of_ble_eq_true rfl) dX11_feed_31 ?_
    refine qt_aload_n 0 dX11_feed_34 rfl rfl ?_
    refine qt_getS 1 (wl_0 h31) fe_RX11_10 rfl dX11_feed_35 ?_
    refine qt_iload_n 3 dX11_feed_38 rfl rfl ?_
    obtain ⟨h39, e39, E⟩ := qbv_el E
    refine qt_callVv (b2 := 0) [.int x3] (c_X9_append x3 h31 e39) cv_RX11_100 (wl_1 h31) rfl rfl rfl (Nat.le_of_ble_eq_true rfl) (Nat.le_of_ble_eq_true rfl) dX11_feed_39 ?_
    refine qt_aload_n 0 dX11_feed_42 rfl rfl ?_
    refine qt_getS 1 (wl_0 h39) fe_RX11_10 rfl dX11_feed_43 ?_
    refine qt_iload 4 dX11_feed_46 rfl ?_
    obtain ⟨h48, e48, E⟩ := qbv_el E
    refine qt_callVv (b2 := 0) [.int x4] (c_X9_append x4 h39 e48) cv_RX11_100 (wl_1 h39) rfl rfl rfl (Nat.le_of_ble_eq_true rfl) (Nat.le_of_ble_eq_true rfl) dX11_feed_48 ?_
    refine qt_aload_n 0 dX11_feed_51 rfl rfl ?_
    refine qt_getS 1 (wl_0 h48) fe_RX11_10 rfl dX11_feed_52 ?_
    refine qt_iload 5 dX11_feed_55 rfl ?_
    obtain ⟨h57, e57, E⟩ := qbv_el E
    refine qt_callVv (b2 := 0) [.int x5] (c_X9_append x5 h48 e57) cv_RX11_100 (wl_1 h48) rfl rfl rfl (Nat.le_of_ble_eq_true rfl) (Nat.le_of_ble_eq_true rfl) dX11_feed_57 ?_
    refine qt_aload_n 0 dX11_feed_60 rfl rfl ?_
    refine qt_getS 1 (wl_0 h57) fe_RX11_10 rfl dX11_feed_61 ?_
    refine qt_getI (wl_1 h57) fe_RX11_97 rfl dX11_feed_64 ?_
    exact qt_ireturn rfl (Nat.le_of_ble_eq_true rfl) dX11_feed_67 E G
  · refine qt_iconst dX11_feed_16 ci_m1 ?_
    exact qt_ireturn rfl (Nat.le_of_ble_eq_true rfl) dX11_feed_17 E G
noncomputable def m_X11_end (x1 : Int32) (h : qa_M) : Option (Int32 × qa_M) :=
  if x1 < 0 then (
   some ((-1 : Int32), h))
  else (
   if x1 ≤ (h.1 1 1) then (
    qbd (qw_I h 1 1 x1) (fun h22 : qa_M =>
    some (x1, h22)))
   else (
    some ((-1 : Int32), h)))
set_option maxRecDepth 20000 in
theorem c_X11_end {l : Launch} {g : qa_G} {d : Nat} (x1 : Int32) (h : qa_M) {c : Int32} {h1 : qa_M} (E : m_X11_end x1 h = some (c, h1)) : qt_Met l g (yX11_end, cX11_end, 2, (some .int)) d 0 [.ref (g.1 + 0), .int x1] h (some (.int c)) h1 := by
  refine qt_Met.of (plainFor_of_name (by decide)) (Nat.le_of_ble_eq_true rfl) ?_
  have G : qg_i (some (.int c)) h1 ((c, h1)) := ⟨rfl, rfl⟩
  unfold m_X11_end at E
  refine qt_iload_n 1 dX11_end_0 rfl rfl ?_
  refine qt_if_lt 15 dX11_end_1 (by decide) E (fun E => ?_) (fun E => ?_)
  · refine qt_iconst dX11_end_15 ci_m1 ?_
    exact qt_ireturn rfl (Nat.le_of_ble_eq_true rfl) dX11_end_16 E G
  · refine qt_iload_n 1 dX11_end_4 rfl rfl ?_
    refine qt_aload_n 0 dX11_end_5 rfl rfl ?_
    refine qt_getS 1 (wl_0 h) fe_RX11_10 rfl dX11_end_6 ?_
    refine qt_getI (wl_1 h) fe_RX11_97 rfl dX11_end_9 ?_
    refine qt_icmp_le 17 dX11_end_12 (by decide) E (fun E => ?_) (fun E => ?_)
    · refine qt_aload_n 0 dX11_end_17 rfl rfl ?_
      refine qt_getS 1 (wl_0 h) fe_RX11_10 rfl dX11_end_18 ?_
      refine qt_iload_n 1 dX11_end_21 rfl rfl ?_
      refine qt_putI (wl_1 h) fd_RX11_97 rfl rfl rfl dX11_end_22 E (fun h22 E => ?_)
      refine qt_iload_n 1 dX11_end_25 rfl rfl ?_
      exact qt_ireturn rfl (Nat.le_of_ble_eq_true rfl) dX11_end_26 E G
    · refine qt_iconst dX11_end_15 ci_m1 ?_
      exact qt_ireturn rfl (Nat.le_of_ble_eq_true rfl) dX11_end_16 E G
noncomputable def m_X3_clear (h : qa_M) : Option qa_M :=
  qbd (qw_I h 14 0 (0 : Int32)) (fun h2 : qa_M =>
  qbd (qw_I h2 14 1 (0 : Int32)) (fun h7 : qa_M =>
  qbd (qw_I h7 14 2 (0 : Int32)) (fun h12 : qa_M =>
  qbd (qw_I h12 14 3 (0 : Int32)) (fun h17 : qa_M =>
  qbd (qw_I h17 14 4 (0 : Int32)) (fun h22 : qa_M =>
  qbd (qw_I h22 14 5 (0 : Int32)) (fun h27 : qa_M =>
  qbd (qw_J h27 14 6 (0 : Int64)) (fun h32 : qa_M =>
  qbd (qw_J h32 14 7 (0 : Int64)) (fun h37 : qa_M =>
  some h37))))))))
set_option maxRecDepth 20000 in
theorem c_X3_clear {l : Launch} {g : qa_G} {d : Nat} (h : qa_M) {h1 : qa_M} (E : m_X3_clear h = some h1) : qt_Met l g (yX3_clear, cX3_clear, 1, none) d 0 [.ref (g.1 + 14)] h none h1 := by
  refine qt_Met.of (plainFor_of_name (by decide)) (Nat.le_of_ble_eq_true rfl) ?_
  have G : qg_v none h1 (h1) := ⟨rfl, rfl⟩
  unfold m_X3_clear at E
  refine qt_aload_n 0 dX3_clear_0 rfl rfl ?_
  refine qt_iconst dX3_clear_1 ci_0 ?_
  refine qt_putI (wl_14 h) fd_RX3_28 rfl rfl rfl dX3_clear_2 E (fun h2 E => ?_)
  refine qt_aload_n 0 dX3_clear_5 rfl rfl ?_
  refine qt_iconst dX3_clear_6 ci_0 ?_
  refine qt_putI (wl_14 h2) fd_RX3_32 rfl rfl rfl dX3_clear_7 E (fun h7 E => ?_)
  refine qt_aload_n 0 dX3_clear_10 rfl rfl ?_
  refine qt_iconst dX3_clear_11 ci_0 ?_
  refine qt_putI (wl_14 h7) fd_RX3_35 rfl rfl rfl dX3_clear_12 E (fun h12 E => ?_)
  refine qt_aload_n 0 dX3_clear_15 rfl rfl ?_
  refine qt_iconst dX3_clear_16 ci_0 ?_
  refine qt_putI (wl_14 h12) fd_RX3_38 rfl rfl rfl dX3_clear_17 E (fun h17 E => ?_)
  refine qt_aload_n 0 dX3_clear_20 rfl rfl ?_
  refine qt_iconst dX3_clear_21 ci_0 ?_
  refine qt_putI (wl_14 h17) fd_RX3_41 rfl rfl rfl dX3_clear_22 E (fun h22 E => ?_)
  refine qt_aload_n 0 dX3_clear_25 rfl rfl ?_
  refine qt_iconst dX3_clear_26 ci_0 ?_
  refine qt_putI (wl_14 h22) fd_RX3_44 rfl rfl rfl dX3_clear_27 E (fun h27 E => ?_)
  refine qt_aload_n 0 dX3_clear_30 rfl rfl ?_
  refine qt_lconst dX3_clear_31 cl_0 ?_
  refine qt_putJ (wl_14 h27) fd_RX3_47 rfl dX3_clear_32 E (fun h32 E => ?_)
  refine qt_aload_n 0 dX3_clear_35 rfl rfl ?_
  refine qt_lconst dX3_clear_36 cl_0 ?_
  refine qt_putJ (wl_14 h32) fd_RX3_51 rfl dX3_clear_37 E (fun h37 E => ?_)
  exact qt_vreturn rfl (Nat.le_of_ble_eq_true rfl) dX3_clear_40 E G
noncomputable def f_X9_scan_b283 (h : qa_M) : Option qa_M :=
  if (h.1 1 1) ≤ (h.1 1 2) then (
   some h)
  else (
   qck (h.1 1 2) 400 (
   if (h.1 2 (h.1 1 2).toNatClampNeg) = (61 : Int32) then (
    qbd (qw_I h 1 5 ((h.1 1 5) + (256 : Int32))) (fun h317 : qa_M =>
    qbd (qw_I h317 1 2 ((h317.1 1 2) + (1 : Int32))) (fun h327 : qa_M =>
    some h327)))
   else (
    some h)))
set_option maxRecDepth 20000 in
theorem s_X9_scan_b283 {l : Launch} {g : qa_G} {d : Nat} {rz : Option Value} {hz : qa_M} (h : qa_M) {z : qa_M} (E : f_X9_scan_b283 h = some z) (G : (qg_v rz hz) z) : qt_At l g (yX9_scan, cX9_scan, 1, none) d 0 0 283 [(0, .ref (g.1 + 1))] [] h rz hz := by
  unfold f_X9_scan_b283 at E
  refine qt_aload_n 0 dX9_scan_283 rfl rfl ?_
  refine qt_getI (wl_1 h) fe_RX9_19 rfl dX9_scan_284 ?_
  refine qt_aload_n 0 dX9_scan_287 rfl rfl ?_
  refine qt_getI (wl_1 h) fe_RX9_15 rfl dX9_scan_288 ?_
  refine qt_icmp_ge 330 dX9_scan_291 (by decide) E (fun E => ?_) (fun E => ?_)
  · exact qt_vreturn rfl (Nat.le_of_ble_eq_true rfl) dX9_scan_330 E G
  · refine qt_aload_n 0 dX9_scan_294 rfl rfl ?_
    refine qt_getS 2 (wl_1 h) fe_RX9_11 rfl dX9_scan_295 ?_
    refine qt_aload_n 0 dX9_scan_298 rfl rfl ?_
    refine qt_getI (wl_1 h) fe_RX9_19 rfl dX9_scan_299 ?_
    refine qt_iald (wl_2 h) dX9_scan_302 E (fun E => ?_)
    refine qt_bipush dX9_scan_303 cb_61 ?_
    refine qt_icmp_ne 330 dX9_scan_305 (by decide) E (fun E => ?_) (fun E => ?_)
    · exact qt_vreturn rfl (Nat.le_of_ble_eq_true rfl) dX9_scan_330 E G
    · refine qt_aload_n 0 dX9_scan_308 rfl rfl ?_
      refine qt_dup dX9_scan_309 rfl ?_
      refine qt_getI (wl_1 h) fe_RX9_31 rfl dX9_scan_310 ?_
      refine qt_sipush dX9_scan_313 cs_256 ?_
      refine qt_iadd dX9_scan_316 ?_
      refine qt_putI (wl_1 h) fd_RX9_31 rfl rfl rfl dX9_scan_317 E (fun h317 E => ?_)
      refine qt_aload_n 0 dX9_scan_320 rfl rfl ?_
      refine qt_dup dX9_scan_321 rfl ?_
      refine qt_getI (wl_1 h317) fe_RX9_19 rfl dX9_scan_322 ?_
      refine qt_iconst dX9_scan_325 ci_1 ?_
      refine qt_iadd dX9_scan_326 ?_
      refine qt_putI (wl_1 h317) fd_RX9_19 rfl rfl rfl dX9_scan_327 E (fun h327 E => ?_)
      exact qt_vreturn rfl (Nat.le_of_ble_eq_true rfl) dX9_scan_330 E G
noncomputable def f_X9_scan_b219 (h : qa_M) : Option qa_M :=
  if (h.1 1 3) = 0 then (
   if (h.1 1 1) ≤ (h.1 1 2) then (
    some h)
   else (
    qbd (qw_I h 1 3 (3 : Int32)) (fun h239 : qa_M =>
    qck (h239.1 1 2) 400 (
    qbd (qw_I h239 1 5 (h239.1 2 (h239.1 1 2).toNatClampNeg)) (fun h252 : qa_M =>
    qbd (qw_I h252 1 2 ((h252.1 1 2) + (1 : Int32))) (fun h262 : qa_M =>
    if (h262.1 1 5) = (60 : Int32) then (
     f_X9_scan_b283 h262)
    else (
     if (h262.1 1 5) = (62 : Int32) then (
      f_X9_scan_b283 h262)
     else (
      some h262))))))))
  else (
   some h)
set_option maxRecDepth 20000 in
theorem s_X9_scan_b219 {l : Launch} {g : qa_G} {d : Nat} {rz : Option Value} {hz : qa_M} (h : qa_M) {z : qa_M} (E : f_X9_scan_b219 h = some z) (G : (qg_v rz hz) z) : qt_At l g (yX9_scan, cX9_scan, 1, none) d 0 0 219 [(0, .ref (g.1 + 1))] [] h rz hz := by
  unfold f_X9_scan_b219 at E
  refine qt_aload_n 0 dX9_scan_219 rfl rfl ?_
  refine qt_getI (wl_1 h) fe_RX9_34 rfl dX9_scan_220 ?_
  refine qt_if_ne 330 dX9_scan_223 (by decide) E (fun E => ?_) (fun E => ?_)
  · exact qt_vreturn rfl (Nat.le_of_ble_eq_true rfl) dX9_scan_330 E G
  · refine qt_aload_n 0 dX9_scan_226 rfl rfl ?_
    refine qt_getI (wl_1 h) fe_RX9_19 rfl dX9_scan_227 ?_
    refine qt_aload_n 0 dX9_scan_230 rfl rfl ?_
    refine qt_getI (wl_1 h) fe_RX9_15 rfl dX9_scan_231 ?_
    refine qt_icmp_ge 330 dX9_scan_234 (by decide) E (fun E => ?_) (fun E => ?_)
    · exact qt_vreturn rfl (Nat.le_of_ble_eq_true rfl) dX9_scan_330 E G
    · refine qt_aload_n 0 dX9_scan_237 rfl rfl ?_
      refine qt_iconst dX9_scan_238 ci_3 ?_
      refine qt_putI (wl_1 h) fd_RX9_34 rfl rfl rfl dX9_scan_239 E (fun h239 E => ?_)
      refine qt_aload_n 0 dX9_scan_242 rfl rfl ?_
      refine qt_aload_n 0 dX9_scan_243 rfl rfl ?_
      refine qt_getS 2 (wl_1 h239) fe_RX9_11 rfl dX9_scan_244 ?_
      refine qt_aload_n 0 dX9_scan_247 rfl rfl ?_
      refine qt_getI (wl_1 h239) fe_RX9_19 rfl dX9_scan_248 ?_
      refine qt_iald (wl_2 h239) dX9_scan_251 E (fun E => ?_)
      refine qt_putI (wl_1 h239) fd_RX9_31 rfl rfl rfl dX9_scan_252 E (fun h252 E => ?_)
      refine qt_aload_n 0 dX9_scan_255 rfl rfl ?_
      refine qt_dup dX9_scan_256 rfl ?_
      refine qt_getI (wl_1 h252) fe_RX9_19 rfl dX9_scan_257 ?_
      refine qt_iconst dX9_scan_260 ci_1 ?_
      refine qt_iadd dX9_scan_261 ?_
      refine qt_putI (wl_1 h252) fd_RX9_19 rfl rfl rfl dX9_scan_262 E (fun h262 E => ?_)
      refine qt_aload_n 0 dX9_scan_265 rfl rfl ?_
      refine qt_getI (wl_1 h262) fe_RX9_31 rfl dX9_scan_266 ?_
      refine qt_bipush dX9_scan_269 cb_60 ?_
      refine qt_icmp_eq 283 dX9_scan_271 (by decide) E (fun E => ?_) (fun E => ?_)
      · exact qt_sub _ [0] rfl ((s_X9_scan_b283 h262 E G))
      · refine qt_aload_n 0 dX9_scan_274 rfl rfl ?_
        refine qt_getI (wl_1 h262) fe_RX9_31 rfl dX9_scan_275 ?_
        refine qt_bipush dX9_scan_278 cb_62 ?_
        refine qt_icmp_ne 330 dX9_scan_280 (by decide) E (fun E => ?_) (fun E => ?_)
        · exact qt_vreturn rfl (Nat.le_of_ble_eq_true rfl) dX9_scan_330 E G
        · exact qt_sub _ [0] rfl ((s_X9_scan_b283 h262 E G))
noncomputable def f_X9_scan_b154 (h : qa_M) : Option ((qa_M) ⊕ qa_M) :=
  if (h.1 1 3) = (1 : Int32) then (
   qup (f_X9_scan_b219 h))
  else (
   if (h.1 1 1) ≤ (h.1 1 2) then (
    qup (f_X9_scan_b219 h))
   else (
    qck (h.1 1 2) 400 (
    if (h.1 2 (h.1 1 2).toNatClampNeg) < (97 : Int32) then (
     qup (f_X9_scan_b219 h))
    else (
     qck (h.1 1 2) 400 (
     if (122 : Int32) < (h.1 2 (h.1 1 2).toNatClampNeg) then (
      qup (f_X9_scan_b219 h))
     else (
      qbd (qw_I h 1 3 (2 : Int32)) (fun h203 : qa_M =>
      qbd (qw_I h203 1 2 ((h203.1 1 2) + (1 : Int32))) (fun h213 : qa_M =>
      some (.inl h213)))))))))
set_option maxRecDepth 20000 in
theorem s_X9_scan_b154 {l : Launch} {g : qa_G} {d : Nat} {rz : Option Value} {hz : qa_M} (h : qa_M) {z : ((qa_M) ⊕ qa_M)} (E : f_X9_scan_b154 h = some z) (G : (Sum.elim (fun (sz : qa_M) => qt_At l g (yX9_scan, cX9_scan, 1, none) d 0 0 154 [(0, .ref (g.1 + 1))] [] sz rz hz) (qg_v rz hz)) z) : qt_At l g (yX9_scan, cX9_scan, 1, none) d 0 0 154 [(0, .ref (g.1 + 1))] [] h rz hz := by
  unfold f_X9_scan_b154 at E
  refine qt_aload_n 0 dX9_scan_154 rfl rfl ?_
  refine qt_getI (wl_1 h) fe_RX9_34 rfl dX9_scan_155 ?_
  refine qt_iconst dX9_scan_158 ci_1 ?_
  refine qt_icmp_eq 219 dX9_scan_159 (by decide) E (fun E => ?_) (fun E => ?_)
  · obtain ⟨z0_, E, G⟩ := qup_g E G
    exact qt_sub _ [0] rfl ((s_X9_scan_b219 h E G))
  · refine qt_aload_n 0 dX9_scan_162 rfl rfl ?_
    refine qt_getI (wl_1 h) fe_RX9_19 rfl dX9_scan_163 ?_
    refine qt_aload_n 0 dX9_scan_166 rfl rfl ?_
    refine qt_getI (wl_1 h) fe_RX9_15 rfl dX9_scan_167 ?_
    refine qt_icmp_ge 219 dX9_scan_170 (by decide) E (fun E => ?_) (fun E => ?_)
    · obtain ⟨z0_, E, G⟩ := qup_g E G
      exact qt_sub _ [0] rfl ((s_X9_scan_b219 h E G))
    · refine qt_aload_n 0 dX9_scan_173 rfl rfl ?_
      refine qt_getS 2 (wl_1 h) fe_RX9_11 rfl dX9_scan_174 ?_
      refine qt_aload_n 0 dX9_scan_177 rfl rfl ?_
      refine qt_getI (wl_1 h) fe_RX9_19 rfl dX9_scan_178 ?_
      refine qt_iald (wl_2 h) dX9_scan_181 E (fun E => ?_)
      refine qt_bipush dX9_scan_182 cb_97 ?_
      refine qt_icmp_lt 219 dX9_scan_184 (by decide) E (fun E => ?_) (fun E => ?_)
      · obtain ⟨z0_, E, G⟩ := qup_g E G
        exact qt_sub _ [0] rfl ((s_X9_scan_b219 h E G))
      · refine qt_aload_n 0 dX9_scan_187 rfl rfl ?_
        refine qt_getS 2 (wl_1 h) fe_RX9_11 rfl dX9_scan_188 ?_
        refine qt_aload_n 0 dX9_scan_191 rfl rfl ?_
        refine qt_getI (wl_1 h) fe_RX9_19 rfl dX9_scan_192 ?_
        refine qt_iald (wl_2 h) dX9_scan_195 E (fun E => ?_)
        refine qt_bipush dX9_scan_196 cb_122 ?_
        refine qt_icmp_gt 219 dX9_scan_198 (by decide) E (fun E => ?_) (fun E => ?_)
        · obtain ⟨z0_, E, G⟩ := qup_g E G
          exact qt_sub _ [0] rfl ((s_X9_scan_b219 h E G))
        · refine qt_aload_n 0 dX9_scan_201 rfl rfl ?_
          refine qt_iconst dX9_scan_202 ci_2 ?_
          refine qt_putI (wl_1 h) fd_RX9_34 rfl rfl rfl dX9_scan_203 E (fun h203 E => ?_)
          refine qt_aload_n 0 dX9_scan_206 rfl rfl ?_
          refine qt_dup dX9_scan_207 rfl ?_
          refine qt_getI (wl_1 h203) fe_RX9_19 rfl dX9_scan_208 ?_
          refine qt_iconst dX9_scan_211 ci_1 ?_
          refine qt_iadd dX9_scan_212 ?_
          refine qt_putI (wl_1 h203) fd_RX9_19 rfl rfl rfl dX9_scan_213 E (fun h213 E => ?_)
          refine qt_goto 154 dX9_scan_216 (by decide) ?_
          cases E
          exact qt_sub _ [0] rfl (G)
noncomputable def f_X9_scan_b154_loop (h : qa_M) : Option qa_M := qlp (fun sz : qa_M => f_X9_scan_b154 sz) h
theorem s_X9_scan_b154_loop {l : Launch} {g : qa_G} {d : Nat} {rz : Option Value} {hz : qa_M} (h : qa_M) {z : qa_M} (E : f_X9_scan_b154_loop h = some z) (G : (qg_v rz hz) z) : qt_At l g (yX9_scan, cX9_scan, 1, none) d 0 0 154 [(0, .ref (g.1 + 1))] [] h rz hz :=
  qlp_ind (fun sz : qa_M => qt_At l g (yX9_scan, cX9_scan, 1, none) d 0 0 154 [(0, .ref (g.1 + 1))] [] sz rz hz) (fun sz E => s_X9_scan_b154 sz E G) (fun sz sz2 E ih => s_X9_scan_b154 sz E ih) h E
noncomputable def f_X9_scan_b138 (s1 : Int32) (h : qa_M) : Option ((qa_M) ⊕ qa_M) :=
  qbd (qw_I h 1 5 s1) (fun h138 : qa_M =>
  qbd (qw_I h138 1 2 ((h138.1 1 2) + (1 : Int32))) (fun h148 : qa_M =>
  some (.inl h148)))
set_option maxRecDepth 20000 in
theorem s_X9_scan_b138 {l : Launch} {g : qa_G} {d : Nat} {rz : Option Value} {hz : qa_M} (s1 : Int32) (h : qa_M) {z : ((qa_M) ⊕ qa_M)} (E : f_X9_scan_b138 s1 h = some z) (G : (Sum.elim (fun (sz : qa_M) => qt_At l g (yX9_scan, cX9_scan, 1, none) d 0 0 56 [(0, .ref (g.1 + 1))] [] sz rz hz) (qg_v rz hz)) z) : qt_At l g (yX9_scan, cX9_scan, 1, none) d 0 0 138 [(0, .ref (g.1 + 1))] [.int s1, .ref (g.1 + 1)] h rz hz := by
  unfold f_X9_scan_b138 at E
  refine qt_putI (wl_1 h) fd_RX9_31 rfl rfl rfl dX9_scan_138 E (fun h138 E => ?_)
  refine qt_aload_n 0 dX9_scan_141 rfl rfl ?_
  refine qt_dup dX9_scan_142 rfl ?_
  refine qt_getI (wl_1 h138) fe_RX9_19 rfl dX9_scan_143 ?_
  refine qt_iconst dX9_scan_146 ci_1 ?_
  refine qt_iadd dX9_scan_147 ?_
  refine qt_putI (wl_1 h138) fd_RX9_19 rfl rfl rfl dX9_scan_148 E (fun h148 E => ?_)
  refine qt_goto 56 dX9_scan_151 (by decide) ?_
  cases E
  exact qt_sub _ [0] rfl (G)
noncomputable def f_X9_scan_b56 (h : qa_M) : Option ((qa_M) ⊕ qa_M) :=
  if (h.1 1 1) ≤ (h.1 1 2) then (
   qup (f_X9_scan_b154_loop h))
  else (
   qck (h.1 1 2) 400 (
   if (h.1 2 (h.1 1 2).toNatClampNeg) < (48 : Int32) then (
    qup (f_X9_scan_b154_loop h))
   else (
    qck (h.1 1 2) 400 (
    if (57 : Int32) < (h.1 2 (h.1 1 2).toNatClampNeg) then (
     qup (f_X9_scan_b154_loop h))
    else (
     qbd (qw_I h 1 3 (1 : Int32)) (fun h97 : qa_M =>
     if (5 : Int32) ≤ ((h97.1 1 2) - (h97.1 1 4)) then (
      f_X9_scan_b138 (-1 : Int32) h97)
     else (
      qck (h97.1 1 2) 400 (
      f_X9_scan_b138 ((((h97.1 1 5) * (10 : Int32)) + (h97.1 2 (h97.1 1 2).toNatClampNeg)) - (48 : Int32)) h97))))))))
set_option maxRecDepth 20000 in
theorem s_X9_scan_b56 {l : Launch} {g : qa_G} {d : Nat} {rz : Option Value} {hz : qa_M} (h : qa_M) {z : ((qa_M) ⊕ qa_M)} (E : f_X9_scan_b56 h = some z) (G : (Sum.elim (fun (sz : qa_M) => qt_At l g (yX9_scan, cX9_scan, 1, none) d 0 0 56 [(0, .ref (g.1 + 1))] [] sz rz hz) (qg_v rz hz)) z) : qt_At l g (yX9_scan, cX9_scan, 1, none) d 0 0 56 [(0, .ref (g.1 + 1))] [] h rz hz := by
  unfold f_X9_scan_b56 at E
  refine qt_aload_n 0 dX9_scan_56 rfl rfl ?_
  refine qt_getI (wl_1 h) fe_RX9_19 rfl dX9_scan_57 ?_
  refine qt_aload_n 0 dX9_scan_60 rfl rfl ?_
  refine qt_getI (wl_1 h) fe_RX9_15 rfl dX9_scan_61 ?_
  refine qt_icmp_ge 154 dX9_scan_64 (by decide) E (fun E => ?_) (fun E => ?_)
  · obtain ⟨z0_, E, G⟩ := qup_g E G
    exact qt_sub _ [0] rfl ((s_X9_scan_b154_loop h E G))
  · refine qt_aload_n 0 dX9_scan_67 rfl rfl ?_
    refine qt_getS 2 (wl_1 h) fe_RX9_11 rfl dX9_scan_68 ?_
    refine qt_aload_n 0 dX9_scan_71 rfl rfl ?_
    refine qt_getI (wl_1 h) fe_RX9_19 rfl dX9_scan_72 ?_
    refine qt_iald (wl_2 h) dX9_scan_75 E (fun E => ?_)
    refine qt_bipush dX9_scan_76 cb_48 ?_
    refine qt_icmp_lt 154 dX9_scan_78 (by decide) E (fun E => ?_) (fun E => ?_)
    · obtain ⟨z0_, E, G⟩ := qup_g E G
      exact qt_sub _ [0] rfl ((s_X9_scan_b154_loop h E G))
    · refine qt_aload_n 0 dX9_scan_81 rfl rfl ?_
      refine qt_getS 2 (wl_1 h) fe_RX9_11 rfl dX9_scan_82 ?_
      refine qt_aload_n 0 dX9_scan_85 rfl rfl ?_
      refine qt_getI (wl_1 h) fe_RX9_19 rfl dX9_scan_86 ?_
      refine qt_iald (wl_2 h) dX9_scan_89 E (fun E => ?_)
      refine qt_bipush dX9_scan_90 cb_57 ?_
      refine qt_icmp_gt 154 dX9_scan_92 (by decide) E (fun E => ?_) (fun E => ?_)
      · obtain ⟨z0_, E, G⟩ := qup_g E G
        exact qt_sub _ [0] rfl ((s_X9_scan_b154_loop h E G))
      · refine qt_aload_n 0 dX9_scan_95 rfl rfl ?_
        refine qt_iconst dX9_scan_96 ci_1 ?_
        refine qt_putI (wl_1 h) fd_RX9_34 rfl rfl rfl dX9_scan_97 E (fun h97 E => ?_)
        refine qt_aload_n 0 dX9_scan_100 rfl rfl ?_
        refine qt_aload_n 0 dX9_scan_101 rfl rfl ?_
        refine qt_getI (wl_1 h97) fe_RX9_19 rfl dX9_scan_102 ?_
        refine qt_aload_n 0 dX9_scan_105 rfl rfl ?_
        refine qt_getI (wl_1 h97) fe_RX9_28 rfl dX9_scan_106 ?_
        refine qt_isub dX9_scan_109 ?_
        refine qt_iconst dX9_scan_110 ci_5 ?_
        refine qt_icmp_ge 137 dX9_scan_111 (by decide) E (fun E => ?_) (fun E => ?_)
        · refine qt_iconst dX9_scan_137 ci_m1 ?_
          exact qt_sub _ [0] rfl ((s_X9_scan_b138 (-1 : Int32) h97 E G))
        · refine qt_aload_n 0 dX9_scan_114 rfl rfl ?_
          refine qt_getI (wl_1 h97) fe_RX9_31 rfl dX9_scan_115 ?_
          refine qt_bipush dX9_scan_118 cb_10 ?_
          refine qt_imul dX9_scan_120 ?_
          refine qt_aload_n 0 dX9_scan_121 rfl rfl ?_
          refine qt_getS 2 (wl_1 h97) fe_RX9_11 rfl dX9_scan_122 ?_
          refine qt_aload_n 0 dX9_scan_125 rfl rfl ?_
          refine qt_getI (wl_1 h97) fe_RX9_19 rfl dX9_scan_126 ?_
          refine qt_iald (wl_2 h97) dX9_scan_129 E (fun E => ?_)
          refine qt_iadd dX9_scan_130 ?_
          refine qt_bipush dX9_scan_131 cb_48 ?_
          refine qt_isub dX9_scan_133 ?_
          refine qt_goto 138 dX9_scan_134 (by decide) ?_
          exact qt_sub _ [0] rfl ((s_X9_scan_b138 ((((h97.1 1 5) * (10 : Int32)) + (h97.1 2 (h97.1 1 2).toNatClampNeg)) - (48 : Int32)) h97 E G))
noncomputable def f_X9_scan_b56_loop (h : qa_M) : Option qa_M := qlp (fun sz : qa_M => f_X9_scan_b56 sz) h
theorem s_X9_scan_b56_loop {l : Launch} {g : qa_G} {d : Nat} {rz : Option Value} {hz : qa_M} (h : qa_M) {z : qa_M} (E : f_X9_scan_b56_loop h = some z) (G : (qg_v rz hz) z) : qt_At l g (yX9_scan, cX9_scan, 1, none) d 0 0 56 [(0, .ref (g.1 + 1))] [] h rz hz :=
  qlp_ind (fun sz : qa_M => qt_At l g (yX9_scan, cX9_scan, 1, none) d 0 0 56 [(0, .ref (g.1 + 1))] [] sz rz hz) (fun sz E => s_X9_scan_b56 sz E G) (fun sz sz2 E ih => s_X9_scan_b56 sz E ih) h E
noncomputable def f_X9_scan_b38 (h : qa_M) : Option qa_M :=
  qbd (qw_I h 1 4 (h.1 1 2)) (fun h43 : qa_M =>
  qbd (qw_I h43 1 5 (0 : Int32)) (fun h48 : qa_M =>
  qbd (qw_I h48 1 3 (0 : Int32)) (fun h53 : qa_M =>
  f_X9_scan_b56_loop h53)))
set_option maxRecDepth 20000 in
theorem s_X9_scan_b38 {l : Launch} {g : qa_G} {d : Nat} {rz : Option Value} {hz : qa_M} (h : qa_M) {z : qa_M} (E : f_X9_scan_b38 h = some z) (G : (qg_v rz hz) z) : qt_At l g (yX9_scan, cX9_scan, 1, none) d 0 0 38 [(0, .ref (g.1 + 1))] [] h rz hz := by
  unfold f_X9_scan_b38 at E
  refine qt_aload_n 0 dX9_scan_38 rfl rfl ?_
  refine qt_aload_n 0 dX9_scan_39 rfl rfl ?_
  refine qt_getI (wl_1 h) fe_RX9_19 rfl dX9_scan_40 ?_
  refine qt_putI (wl_1 h) fd_RX9_28 rfl rfl rfl dX9_scan_43 E (fun h43 E => ?_)
  refine qt_aload_n 0 dX9_scan_46 rfl rfl ?_
  refine qt_iconst dX9_scan_47 ci_0 ?_
  refine qt_putI (wl_1 h43) fd_RX9_31 rfl rfl rfl dX9_scan_48 E (fun h48 E => ?_)
  refine qt_aload_n 0 dX9_scan_51 rfl rfl ?_
  refine qt_iconst dX9_scan_52 ci_0 ?_
  refine qt_putI (wl_1 h48) fd_RX9_34 rfl rfl rfl dX9_scan_53 E (fun h53 E => ?_)
  exact qt_sub _ [0] rfl ((s_X9_scan_b56_loop h53 E G))
noncomputable def f_X9_scan_b0 (h : qa_M) : Option ((qa_M) ⊕ qa_M) :=
  if (h.1 1 1) ≤ (h.1 1 2) then (
   qup (f_X9_scan_b38 h))
  else (
   qck (h.1 1 2) 400 (
   if (h.1 2 (h.1 1 2).toNatClampNeg) = (32 : Int32) then (
    qbd (qw_I h 1 2 ((h.1 1 2) + (1 : Int32))) (fun h32 : qa_M =>
    some (.inl h32)))
   else (
    qup (f_X9_scan_b38 h))))
set_option maxRecDepth 20000 in
theorem s_X9_scan_b0 {l : Launch} {g : qa_G} {d : Nat} {rz : Option Value} {hz : qa_M} (h : qa_M) {z : ((qa_M) ⊕ qa_M)} (E : f_X9_scan_b0 h = some z) (G : (Sum.elim (fun (sz : qa_M) => qt_At l g (yX9_scan, cX9_scan, 1, none) d 0 0 0 [(0, .ref (g.1 + 1))] [] sz rz hz) (qg_v rz hz)) z) : qt_At l g (yX9_scan, cX9_scan, 1, none) d 0 0 0 [(0, .ref (g.1 + 1))] [] h rz hz := by
  unfold f_X9_scan_b0 at E
  refine qt_aload_n 0 dX9_scan_0 rfl rfl ?_
  refine qt_getI (wl_1 h) fe_RX9_19 rfl dX9_scan_1 ?_
  refine qt_aload_n 0 dX9_scan_4 rfl rfl ?_
  refine qt_getI (wl_1 h) fe_RX9_15 rfl dX9_scan_5 ?_
  refine qt_icmp_ge 38 dX9_scan_8 (by decide) E (fun E => ?_) (fun E => ?_)
  · obtain ⟨z0_, E, G⟩ := qup_g E G
    exact qt_sub _ [0] rfl ((s_X9_scan_b38 h E G))
  · refine qt_aload_n 0 dX9_scan_11 rfl rfl ?_
    refine qt_getS 2 (wl_1 h) fe_RX9_11 rfl dX9_scan_12 ?_
    refine qt_aload_n 0 dX9_scan_15 rfl rfl ?_
    refine qt_getI (wl_1 h) fe_RX9_19 rfl dX9_scan_16 ?_
    refine qt_iald (wl_2 h) dX9_scan_19 E (fun E => ?_)
    refine qt_bipush dX9_scan_20 cb_32 ?_
    refine qt_icmp_ne 38 dX9_scan_22 (by decide) E (fun E => ?_) (fun E => ?_)
    · obtain ⟨z0_, E, G⟩ := qup_g E G
      exact qt_sub _ [0] rfl ((s_X9_scan_b38 h E G))
    · refine qt_aload_n 0 dX9_scan_25 rfl rfl ?_
      refine qt_dup dX9_scan_26 rfl ?_
      refine qt_getI (wl_1 h) fe_RX9_19 rfl dX9_scan_27 ?_
      refine qt_iconst dX9_scan_30 ci_1 ?_
      refine qt_iadd dX9_scan_31 ?_
      refine qt_putI (wl_1 h) fd_RX9_19 rfl rfl rfl dX9_scan_32 E (fun h32 E => ?_)
      refine qt_goto 0 dX9_scan_35 (by decide) ?_
      cases E
      exact qt_sub _ [0] rfl (G)
noncomputable def f_X9_scan_b0_loop (h : qa_M) : Option qa_M := qlp (fun sz : qa_M => f_X9_scan_b0 sz) h
theorem s_X9_scan_b0_loop {l : Launch} {g : qa_G} {d : Nat} {rz : Option Value} {hz : qa_M} (h : qa_M) {z : qa_M} (E : f_X9_scan_b0_loop h = some z) (G : (qg_v rz hz) z) : qt_At l g (yX9_scan, cX9_scan, 1, none) d 0 0 0 [(0, .ref (g.1 + 1))] [] h rz hz :=
  qlp_ind (fun sz : qa_M => qt_At l g (yX9_scan, cX9_scan, 1, none) d 0 0 0 [(0, .ref (g.1 + 1))] [] sz rz hz) (fun sz E => s_X9_scan_b0 sz E G) (fun sz sz2 E ih => s_X9_scan_b0 sz E ih) h E
noncomputable def m_X9_scan (h : qa_M) : Option qa_M :=
  f_X9_scan_b0_loop h
set_option maxRecDepth 20000 in
theorem c_X9_scan {l : Launch} {g : qa_G} {d : Nat} (h : qa_M) {h1 : qa_M} (E : m_X9_scan h = some h1) : qt_Met l g (yX9_scan, cX9_scan, 1, none) d 0 [.ref (g.1 + 1)] h none h1 := by
  refine qt_Met.of (plainFor_of_name (by decide)) (Nat.le_of_ble_eq_true rfl) ?_
  have G : qg_v none h1 (h1) := ⟨rfl, rfl⟩
  unfold m_X9_scan at E
  exact qt_sub _ [0] rfl ((s_X9_scan_b0_loop h E G))
noncomputable def m_X9_begin (h : qa_M) : Option qa_M :=
  qbd (qw_I h 1 2 (0 : Int32)) (fun h2 : qa_M =>
  qbd (qw_I h2 1 7 (0 : Int32)) (fun h7 : qa_M =>
  qbv (m_X9_scan h7) (fun h11 : qa_M =>
  some h11)))
set_option maxRecDepth 20000 in
theorem c_X9_begin {l : Launch} {g : qa_G} {d : Nat} (h : qa_M) {h1 : qa_M} (E : m_X9_begin h = some h1) : qt_Met l g (yX9_begin, cX9_begin, 1, none) (d + 1) 0 [.ref (g.1 + 1)] h none h1 := by
  refine qt_Met.of (plainFor_of_name (by decide)) (Nat.le_of_ble_eq_true rfl) ?_
  have G : qg_v none h1 (h1) := ⟨rfl, rfl⟩
  unfold m_X9_begin at E
  refine qt_aload_n 0 dX9_begin_0 rfl rfl ?_
  refine qt_iconst dX9_begin_1 ci_0 ?_
  refine qt_putI (wl_1 h) fd_RX9_19 rfl rfl rfl dX9_begin_2 E (fun h2 E => ?_)
  refine qt_aload_n 0 dX9_begin_5 rfl rfl ?_
  refine qt_iconst dX9_begin_6 ci_0 ?_
  refine qt_putI (wl_1 h2) fd_RX9_22 rfl rfl rfl dX9_begin_7 E (fun h7 E => ?_)
  refine qt_aload_n 0 dX9_begin_10 rfl rfl ?_
  obtain ⟨h11, e11, E⟩ := qbv_el E
  refine qt_callVv (b2 := 0) [] (c_X9_scan h7 e11) cv_RX9_25 (wl_1 h7) rfl rfl rfl (Nat.le_of_ble_eq_true rfl) (Nat.le_of_ble_eq_true rfl) dX9_begin_11 ?_
  exact qt_vreturn rfl (Nat.le_of_ble_eq_true rfl) dX9_begin_14 E G
noncomputable def f_X9_among_b106 (k1 : Nat) (x2 : Int32) (x3 : Int32) (x4 : Int32) (h : qa_M) : Option ((Int32 × Int32 × Int32 × qa_M) ⊕ (Int32 × qa_M)) :=
  qbd (x4 + (1 : Int32)) (fun v106 : Int32 =>
  some (.inl (x2, x3, v106, h)))
set_option maxRecDepth 20000 in
theorem s_X9_among_b106 {l : Launch} {g : qa_G} {d : Nat} {rz : Option Value} {hz : qa_M} (k1 : Nat) (hk1 : k1 < 19) (x2 : Int32) (x3 : Int32) (x4 : Int32) (h : qa_M) {z : ((Int32 × Int32 × Int32 × qa_M) ⊕ (Int32 × qa_M))} (E : f_X9_among_b106 k1 x2 x3 x4 h = some z) (G : (Sum.elim (fun (sz : Int32 × Int32 × Int32 × qa_M) => qt_At l g (yX9_among, cX9_among, 5, (some .int)) (d + 4) 0 0 20 [(0, .ref (g.1 + 1)), (1, .ref (g.2.2.2.1 k1)), (2, .int sz.1), (3, .int sz.2.1), (4, .int sz.2.2.1)] [] sz.2.2.2 rz hz) (qg_i rz hz)) z) : qt_At l g (yX9_among, cX9_among, 5, (some .int)) (d + 4) 0 0 106 [(0, .ref (g.1 + 1)), (1, .ref (g.2.2.2.1 k1)), (2, .int x2), (3, .int x3), (4, .int x4)] [] h rz hz := by
  unfold f_X9_among_b106 at E
  refine qt_iinc 4 (fun v106 => [(4, .int v106), (0, .ref (g.1 + 1)), (1, .ref (g.2.2.2.1 k1)), (2, .int x2), (3, .int x3)]) dX9_among_106 rfl ci_1 (Nat.le_of_ble_eq_true rfl) (fun _ => rfl) E (fun v106 E => ?_)
  refine qt_goto 20 dX9_among_109 (by decide) ?_
  cases E
  exact qt_sub _ [1, 2, 3, 4, 0] rfl (G)
noncomputable def f_X9_among_b49 (k1 : Nat) (x2 : Int32) (x3 : Int32) (x4 : Int32) (h : qa_M) : Option ((Int32 × Int32 × Int32 × qa_M) ⊕ (Int32 × qa_M)) :=
  if x3 = (h.1 1 2) then (
   qup (some (x2, h)))
  else (
   qbd (x2 + (1 : Int32)) (fun v59 : Int32 =>
   qbd (h.1 1 4) (fun v66 : Int32 =>
   f_X9_among_b106 k1 v59 v66 x4 h)))
set_option maxRecDepth 20000 in
theorem s_X9_among_b49 {l : Launch} {g : qa_G} {d : Nat} {rz : Option Value} {hz : qa_M} (k1 : Nat) (hk1 : k1 < 19) (x2 : Int32) (x3 : Int32) (x4 : Int32) (h : qa_M) {z : ((Int32 × Int32 × Int32 × qa_M) ⊕ (Int32 × qa_M))} (E : f_X9_among_b49 k1 x2 x3 x4 h = some z) (G : (Sum.elim (fun (sz : Int32 × Int32 × Int32 × qa_M) => qt_At l g (yX9_among, cX9_among, 5, (some .int)) (d + 4) 0 0 20 [(0, .ref (g.1 + 1)), (1, .ref (g.2.2.2.1 k1)), (2, .int sz.1), (3, .int sz.2.1), (4, .int sz.2.2.1)] [] sz.2.2.2 rz hz) (qg_i rz hz)) z) : qt_At l g (yX9_among, cX9_among, 5, (some .int)) (d + 4) 0 0 49 [(0, .ref (g.1 + 1)), (1, .ref (g.2.2.2.1 k1)), (2, .int x2), (3, .int x3), (4, .int x4)] [] h rz hz := by
  unfold f_X9_among_b49 at E
  refine qt_iload_n 3 dX9_among_49 rfl rfl ?_
  refine qt_aload_n 0 dX9_among_50 rfl rfl ?_
  refine qt_getI (wl_1 h) fe_RX9_19 rfl dX9_among_51 ?_
  refine qt_icmp_ne 59 dX9_among_54 (by decide) E (fun E => ?_) (fun E => ?_)
  · refine qt_iinc 2 (fun v59 => [(2, .int v59), (0, .ref (g.1 + 1)), (1, .ref (g.2.2.2.1 k1)), (3, .int x3), (4, .int x4)]) dX9_among_59 rfl ci_1 (Nat.le_of_ble_eq_true rfl) (fun _ => rfl) E (fun v59 E => ?_)
    refine qt_aload_n 1 dX9_among_62 rfl rfl ?_
    refine qt_getI (wl_1 h) fe_RX9_28 rfl dX9_among_63 ?_
    refine qt_istore_n (fun v66 => [(3, .int v66), (2, .int v59), (0, .ref (g.1 + 1)), (1, .ref (g.2.2.2.1 k1)), (4, .int x4)]) dX9_among_66 rfl (Nat.le_of_ble_eq_true rfl) (fun _ => rfl) E (fun v66 E => ?_)
    refine qt_goto 106 dX9_among_67 (by decide) ?_
    exact qt_sub _ [2, 3, 1, 0, 4] rfl ((s_X9_among_b106 k1 hk1 v59 v66 x4 h E G))
  · refine qt_iload_n 2 dX9_among_57 rfl rfl ?_
    obtain ⟨z0_, E, G⟩ := qup_g E G
    exact qt_ireturn rfl (Nat.le_of_ble_eq_true rfl) dX9_among_58 E G
noncomputable def f_X9_among_b105 (k1 : Nat) (x2 : Int32) (x4 : Int32) (s0 : Int32) (h : qa_M) : Option ((Int32 × Int32 × Int32 × qa_M) ⊕ (Int32 × qa_M)) :=
  qbd s0 (fun v105 : Int32 =>
  f_X9_among_b106 k1 x2 v105 x4 h)
set_option maxRecDepth 20000 in
theorem s_X9_among_b105 {l : Launch} {g : qa_G} {d : Nat} {rz : Option Value} {hz : qa_M} (k1 : Nat) (hk1 : k1 < 19) (x2 : Int32) (x4 : Int32) (s0 : Int32) (h : qa_M) {z : ((Int32 × Int32 × Int32 × qa_M) ⊕ (Int32 × qa_M))} (E : f_X9_among_b105 k1 x2 x4 s0 h = some z) (G : (Sum.elim (fun (sz : Int32 × Int32 × Int32 × qa_M) => qt_At l g (yX9_among, cX9_among, 5, (some .int)) (d + 4) 0 0 20 [(0, .ref (g.1 + 1)), (1, .ref (g.2.2.2.1 k1)), (2, .int sz.1), (3, .int sz.2.1), (4, .int sz.2.2.1)] [] sz.2.2.2 rz hz) (qg_i rz hz)) z) : qt_At l g (yX9_among, cX9_among, 5, (some .int)) (d + 4) 0 0 105 [(0, .ref (g.1 + 1)), (1, .ref (g.2.2.2.1 k1)), (2, .int x2), (4, .int x4)] [.int s0] h rz hz := by
  unfold f_X9_among_b105 at E
  refine qt_istore_n (fun v105 => [(3, .int v105), (0, .ref (g.1 + 1)), (1, .ref (g.2.2.2.1 k1)), (2, .int x2), (4, .int x4)]) dX9_among_105 rfl (Nat.le_of_ble_eq_true rfl) (fun _ => rfl) E (fun v105 E => ?_)
  exact qt_sub _ [1, 2, 3, 0, 4] rfl ((s_X9_among_b106 k1 hk1 x2 v105 x4 h E G))
noncomputable def f_X9_among_b104 (k1 : Nat) (x2 : Int32) (x4 : Int32) (h : qa_M) : Option ((Int32 × Int32 × Int32 × qa_M) ⊕ (Int32 × qa_M)) :=
  f_X9_among_b105 k1 x2 x4 (-1 : Int32) h
set_option maxRecDepth 20000 in
theorem s_X9_among_b104 {l : Launch} {g : qa_G} {d : Nat} {rz : Option Value} {hz : qa_M} (k1 : Nat) (hk1 : k1 < 19) (x2 : Int32) (x4 : Int32) (h : qa_M) {z : ((Int32 × Int32 × Int32 × qa_M) ⊕ (Int32 × qa_M))} (E : f_X9_among_b104 k1 x2 x4 h = some z) (G : (Sum.elim (fun (sz : Int32 × Int32 × Int32 × qa_M) => qt_At l g (yX9_among, cX9_among, 5, (some .int)) (d + 4) 0 0 20 [(0, .ref (g.1 + 1)), (1, .ref (g.2.2.2.1 k1)), (2, .int sz.1), (3, .int sz.2.1), (4, .int sz.2.2.1)] [] sz.2.2.2 rz hz) (qg_i rz hz)) z) : qt_At l g (yX9_among, cX9_among, 5, (some .int)) (d + 4) 0 0 104 [(0, .ref (g.1 + 1)), (1, .ref (g.2.2.2.1 k1)), (2, .int x2), (4, .int x4)] [] h rz hz := by
  unfold f_X9_among_b104 at E
  refine qt_iconst dX9_among_104 ci_m1 ?_
  exact qt_sub _ [0, 1, 2, 3] rfl ((s_X9_among_b105 k1 hk1 x2 x4 (-1 : Int32) h E G))
noncomputable def f_X9_among_b20 (k1 : Nat) (x2 : Int32) (x3 : Int32) (x4 : Int32) (h : qa_M) : Option ((Int32 × Int32 × Int32 × qa_M) ⊕ (Int32 × qa_M)) :=
  if (nI (qa_len k1)) < x4 then (
   qup (some ((-1 : Int32), h)))
  else (
   if x4 = (nI (qa_len k1)) then (
    f_X9_among_b49 k1 x2 x3 x4 h)
   else (
    qck x4 (qa_len k1) (
    if (qa_ch k1 x4.toNatClampNeg) = (32 : Int32) then (
     f_X9_among_b49 k1 x2 x3 x4 h)
    else (
     if x3 = (-1 : Int32) then (
      f_X9_among_b106 k1 x2 x3 x4 h)
     else (
      if (h.1 1 2) ≤ x3 then (
       f_X9_among_b104 k1 x2 x4 h)
      else (
       qck x3 400 (
       qck x4 (qa_len k1) (
       if (h.1 2 x3.toNatClampNeg) = (qa_ch k1 x4.toNatClampNeg) then (
        f_X9_among_b105 k1 x2 x4 (x3 + (1 : Int32)) h)
       else (
        f_X9_among_b104 k1 x2 x4 h)))))))))
set_option maxRecDepth 20000 in
theorem s_X9_among_b20 {l : Launch} {g : qa_G} {d : Nat} {rz : Option Value} {hz : qa_M} (k1 : Nat) (hk1 : k1 < 19) (x2 : Int32) (x3 : Int32) (x4 : Int32) (h : qa_M) {z : ((Int32 × Int32 × Int32 × qa_M) ⊕ (Int32 × qa_M))} (E : f_X9_among_b20 k1 x2 x3 x4 h = some z) (G : (Sum.elim (fun (sz : Int32 × Int32 × Int32 × qa_M) => qt_At l g (yX9_among, cX9_among, 5, (some .int)) (d + 4) 0 0 20 [(0, .ref (g.1 + 1)), (1, .ref (g.2.2.2.1 k1)), (2, .int sz.1), (3, .int sz.2.1), (4, .int sz.2.2.1)] [] sz.2.2.2 rz hz) (qg_i rz hz)) z) : qt_At l g (yX9_among, cX9_among, 5, (some .int)) (d + 4) 0 0 20 [(0, .ref (g.1 + 1)), (1, .ref (g.2.2.2.1 k1)), (2, .int x2), (3, .int x3), (4, .int x4)] [] h rz hz := by
  unfold f_X9_among_b20 at E
  refine qt_iload 4 dX9_among_20 rfl ?_
  refine qt_aload_n 1 dX9_among_22 rfl rfl ?_
  refine qt_strlen hk1 tb_640 dX9_among_23 (Nat.le_of_ble_eq_true rfl) ?_
  refine qt_icmp_gt 112 dX9_among_26 (by decide) E (fun E => ?_) (fun E => ?_)
  · refine qt_iconst dX9_among_112 ci_m1 ?_
    obtain ⟨z0_, E, G⟩ := qup_g E G
    exact qt_ireturn rfl (Nat.le_of_ble_eq_true rfl) dX9_among_113 E G
  · refine qt_iload 4 dX9_among_29 rfl ?_
    refine qt_aload_n 1 dX9_among_31 rfl rfl ?_
    refine qt_strlen hk1 tb_640 dX9_among_32 (Nat.le_of_ble_eq_true rfl) ?_
    refine qt_icmp_eq 49 dX9_among_35 (by decide) E (fun E => ?_) (fun E => ?_)
    · exact qt_sub _ [0, 1, 2, 3, 4] rfl ((s_X9_among_b49 k1 hk1 x2 x3 x4 h E G))
    · refine qt_aload_n 1 dX9_among_38 rfl rfl ?_
      refine qt_iload 4 dX9_among_39 rfl ?_
      refine qt_charAt hk1 tb_650 dX9_among_41 (Nat.le_of_ble_eq_true rfl) E (fun E => ?_)
      refine qt_bipush dX9_among_44 cb_32 ?_
      refine qt_icmp_ne 70 dX9_among_46 (by decide) E (fun E => ?_) (fun E => ?_)
      · refine qt_iload_n 3 dX9_among_70 rfl rfl ?_
        refine qt_iconst dX9_among_71 ci_m1 ?_
        refine qt_icmp_eq 106 dX9_among_72 (by decide) E (fun E => ?_) (fun E => ?_)
        · exact qt_sub _ [0, 1, 2, 3, 4] rfl ((s_X9_among_b106 k1 hk1 x2 x3 x4 h E G))
        · refine qt_iload_n 3 dX9_among_75 rfl rfl ?_
          refine qt_aload_n 0 dX9_among_76 rfl rfl ?_
          refine qt_getI (wl_1 h) fe_RX9_19 rfl dX9_among_77 ?_
          refine qt_icmp_ge 104 dX9_among_80 (by decide) E (fun E => ?_) (fun E => ?_)
          · exact qt_sub _ [0, 1, 2, 4] rfl ((s_X9_among_b104 k1 hk1 x2 x4 h E G))
          · refine qt_aload_n 0 dX9_among_83 rfl rfl ?_
            refine qt_getS 2 (wl_1 h) fe_RX9_11 rfl dX9_among_84 ?_
            refine qt_iload_n 3 dX9_among_87 rfl rfl ?_
            refine qt_iald (wl_2 h) dX9_among_88 E (fun E => ?_)
            refine qt_aload_n 1 dX9_among_89 rfl rfl ?_
            refine qt_iload 4 dX9_among_90 rfl ?_
            refine qt_charAt hk1 tb_650 dX9_among_92 (Nat.le_of_ble_eq_true rfl) E (fun E => ?_)
            refine qt_icmp_ne 104 dX9_among_95 (by decide) E (fun E => ?_) (fun E => ?_)
            · exact qt_sub _ [0, 1, 2, 4] rfl ((s_X9_among_b104 k1 hk1 x2 x4 h E G))
            · refine qt_iload_n 3 dX9_among_98 rfl rfl ?_
              refine qt_iconst dX9_among_99 ci_1 ?_
              refine qt_iadd dX9_among_100 ?_
              refine qt_goto 105 dX9_among_101 (by decide) ?_
              exact qt_sub _ [0, 1, 2, 4] rfl ((s_X9_among_b105 k1 hk1 x2 x4 (x3 + (1 : Int32)) h E G))
      · exact qt_sub _ [0, 1, 2, 3, 4] rfl ((s_X9_among_b49 k1 hk1 x2 x3 x4 h E G))
noncomputable def f_X9_among_b20_loop (k1 : Nat) (x2 : Int32) (x3 : Int32) (x4 : Int32) (h : qa_M) : Option (Int32 × qa_M) := qlp (fun sz : Int32 × Int32 × Int32 × qa_M => f_X9_among_b20 k1 sz.1 sz.2.1 sz.2.2.1 sz.2.2.2) (x2, x3, x4, h)
theorem s_X9_among_b20_loop {l : Launch} {g : qa_G} {d : Nat} {rz : Option Value} {hz : qa_M} (k1 : Nat) (hk1 : k1 < 19) (x2 : Int32) (x3 : Int32) (x4 : Int32) (h : qa_M) {z : (Int32 × qa_M)} (E : f_X9_among_b20_loop k1 x2 x3 x4 h = some z) (G : (qg_i rz hz) z) : qt_At l g (yX9_among, cX9_among, 5, (some .int)) (d + 4) 0 0 20 [(0, .ref (g.1 + 1)), (1, .ref (g.2.2.2.1 k1)), (2, .int x2), (3, .int x3), (4, .int x4)] [] h rz hz :=
  qlp_ind (fun sz : Int32 × Int32 × Int32 × qa_M => qt_At l g (yX9_among, cX9_among, 5, (some .int)) (d + 4) 0 0 20 [(0, .ref (g.1 + 1)), (1, .ref (g.2.2.2.1 k1)), (2, .int sz.1), (3, .int sz.2.1), (4, .int sz.2.2.1)] [] sz.2.2.2 rz hz) (fun sz E => s_X9_among_b20 k1 hk1 sz.1 sz.2.1 sz.2.2.1 sz.2.2.2 E G) (fun sz sz2 E ih => s_X9_among_b20 k1 hk1 sz.1 sz.2.1 sz.2.2.1 sz.2.2.2 E ih) (x2, x3, x4, h) E
noncomputable def m_X9_among (k1 : Nat) (h : qa_M) : Option (Int32 × qa_M) :=
  if (h.1 1 3) = (2 : Int32) then (
   qbd (0 : Int32) (fun v11 : Int32 =>
   qbd (h.1 1 4) (fun v16 : Int32 =>
   qbd (0 : Int32) (fun v18 : Int32 =>
   f_X9_among_b20_loop k1 v11 v16 v18 h))))
  else (
   some ((-1 : Int32), h))
set_option maxRecDepth 20000 in
theorem c_X9_among {l : Launch} {g : qa_G} {d : Nat} (k1 : Nat) (h : qa_M) (hk1 : k1 < 19) {c : Int32} {h1 : qa_M} (E : m_X9_among k1 h = some (c, h1)) : qt_Met l g (yX9_among, cX9_among, 5, (some .int)) (d + 4) 0 [.ref (g.1 + 1), .ref (g.2.2.2.1 k1)] h (some (.int c)) h1 := by
  refine qt_Met.of (plainFor_of_name (by decide)) (Nat.le_of_ble_eq_true rfl) ?_
  have G : qg_i (some (.int c)) h1 ((c, h1)) := ⟨rfl, rfl⟩
  unfold m_X9_among at E
  refine qt_aload_n 0 dX9_among_0 rfl rfl ?_
  refine qt_getI (wl_1 h) fe_RX9_34 rfl dX9_among_1 ?_
  refine qt_iconst dX9_among_4 ci_2 ?_
  refine qt_icmp_eq 10 dX9_among_5 (by decide) E (fun E => ?_) (fun E => ?_)
  · refine qt_iconst dX9_among_10 ci_0 ?_
    refine qt_istore_n (fun v11 => [(2, .int v11), (0, .ref (g.1 + 1)), (1, .ref (g.2.2.2.1 k1))]) dX9_among_11 rfl (Nat.le_of_ble_eq_true rfl) (fun _ => rfl) E (fun v11 E => ?_)
    refine qt_aload_n 1 dX9_among_12 rfl rfl ?_
    refine qt_getI (wl_1 h) fe_RX9_28 rfl dX9_among_13 ?_
    refine qt_istore_n (fun v16 => [(3, .int v16), (2, .int v11), (0, .ref (g.1 + 1)), (1, .ref (g.2.2.2.1 k1))]) dX9_among_16 rfl (Nat.le_of_ble_eq_true rfl) (fun _ => rfl) E (fun v16 E => ?_)
    refine qt_iconst dX9_among_17 ci_0 ?_
    refine qt_istore (fun v18 => [(4, .int v18), (3, .int v16), (2, .int v11), (0, .ref (g.1 + 1)), (1, .ref (g.2.2.2.1 k1))]) dX9_among_18 (Nat.le_of_ble_eq_true rfl) (fun _ => rfl) E (fun v18 E => ?_)
    exact qt_sub _ [3, 4, 2, 1, 0] rfl ((s_X9_among_b20_loop k1 hk1 v11 v16 v18 h E G))
  · refine qt_iconst dX9_among_8 ci_m1 ?_
    exact qt_ireturn rfl (Nat.le_of_ble_eq_true rfl) dX9_among_9 E G
noncomputable def m_X9_failAt (x1 : Int32) (x2 : Int32) (h : qa_M) : Option (Int32 × qa_M) :=
  if (h.1 1 7) = 0 then (
   qbd (qw_I h 1 7 (((1 : Int32) + ((8 : Int32) * x1)) + x2)) (fun h16 : qa_M =>
   some ((0 : Int32), h16)))
  else (
   some ((0 : Int32), h))
set_option maxRecDepth 20000 in
theorem c_X9_failAt {l : Launch} {g : qa_G} {d : Nat} (x1 : Int32) (x2 : Int32) (h : qa_M) {c : Int32} {h1 : qa_M} (E : m_X9_failAt x1 x2 h = some (c, h1)) : qt_Met l g (yX9_failAt, cX9_failAt, 3, (some .boolean)) d 0 [.ref (g.1 + 1), .int x1, .int x2] h (some (.int c)) h1 := by
  refine qt_Met.of (plainFor_of_name (by decide)) (Nat.le_of_ble_eq_true rfl) ?_
  have G : qg_i (some (.int c)) h1 ((c, h1)) := ⟨rfl, rfl⟩
  unfold m_X9_failAt at E
  refine qt_aload_n 0 dX9_failAt_0 rfl rfl ?_
  refine qt_getI (wl_1 h) fe_RX9_22 rfl dX9_failAt_1 ?_
  refine qt_if_ne 19 dX9_failAt_4 (by decide) E (fun E => ?_) (fun E => ?_)
  · refine qt_iconst dX9_failAt_19 ci_0 ?_
    exact qt_zreturn rfl (Or.inl rfl) (Nat.le_of_ble_eq_true rfl) dX9_failAt_20 E G
  · refine qt_aload_n 0 dX9_failAt_7 rfl rfl ?_
    refine qt_iconst dX9_failAt_8 ci_1 ?_
    refine qt_bipush dX9_failAt_9 cb_8 ?_
    refine qt_iload_n 1 dX9_failAt_11 rfl rfl ?_
    refine qt_imul dX9_failAt_12 ?_
    refine qt_iadd dX9_failAt_13 ?_
    refine qt_iload_n 2 dX9_failAt_14 rfl rfl ?_
    refine qt_iadd dX9_failAt_15 ?_
    refine qt_putI (wl_1 h) fd_RX9_22 rfl rfl rfl dX9_failAt_16 E (fun h16 E => ?_)
    refine qt_iconst dX9_failAt_19 ci_0 ?_
    exact qt_zreturn rfl (Or.inl rfl) (Nat.le_of_ble_eq_true rfl) dX9_failAt_20 E G
noncomputable def m_X9_fail (x1 : Int32) (h : qa_M) : Option (Int32 × qa_M) :=
  qbn (m_X9_failAt (h.1 1 4) x1 h) (fun (c6 : Int32) (h6 : qa_M) =>
  qpr (c6 = 0 ∨ c6 = 1) (
  some (c6, h6)))
set_option maxRecDepth 20000 in
theorem c_X9_fail {l : Launch} {g : qa_G} {d : Nat} (x1 : Int32) (h : qa_M) {c : Int32} {h1 : qa_M} (E : m_X9_fail x1 h = some (c, h1)) : qt_Met l g (yX9_fail, cX9_fail, 2, (some .boolean)) (d + 1) 0 [.ref (g.1 + 1), .int x1] h (some (.int c)) h1 := by
  refine qt_Met.of (plainFor_of_name (by decide)) (Nat.le_of_ble_eq_true rfl) ?_
  have G : qg_i (some (.int c)) h1 ((c, h1)) := ⟨rfl, rfl⟩
  unfold m_X9_fail at E
  refine qt_aload_n 0 dX9_fail_0 rfl rfl ?_
  refine qt_aload_n 0 dX9_fail_1 rfl rfl ?_
  refine qt_getI (wl_1 h) fe_RX9_28 rfl dX9_fail_2 ?_
  refine qt_iload_n 1 dX9_fail_5 rfl rfl ?_
  obtain ⟨c6, h6, e6, E⟩ := qbn_el E
  refine qt_callVi (b2 := 0) [.int (h.1 1 4), .int x1] (c_X9_failAt (h.1 1 4) x1 h e6) cv_RX9_46 (wl_1 h) rfl rfl rfl (Nat.le_of_ble_eq_true rfl) (Nat.le_of_ble_eq_true rfl) dX9_fail_6 ?_
  obtain ⟨z9, E⟩ := qpr_el E
  exact qt_zreturn rfl z9 (Nat.le_of_ble_eq_true rfl) dX9_fail_9 E G
noncomputable def m_X4_isFull (x1 : Int32) (h : qa_M) : Option (Int32 × qa_M) :=
  if x1 = (2 : Int32) then (
   if (h.1 14 2) < (8 : Int32) then (
    some ((0 : Int32), h))
   else (
    some ((1 : Int32), h)))
  else (
   if x1 = (3 : Int32) then (
    if (h.1 14 3) < (6 : Int32) then (
     some ((0 : Int32), h))
    else (
     some ((1 : Int32), h)))
   else (
    if x1 ≤ (3 : Int32) then (
     some ((0 : Int32), h))
    else (
     if (h.1 14 4) < (4 : Int32) then (
      some ((0 : Int32), h))
     else (
      some ((1 : Int32), h)))))
set_option maxRecDepth 20000 in
theorem c_X4_isFull {l : Launch} {g : qa_G} {d : Nat} (x1 : Int32) (h : qa_M) {c : Int32} {h1 : qa_M} (E : m_X4_isFull x1 h = some (c, h1)) : qt_Met l g (yX4_isFull, cX4_isFull, 2, (some .boolean)) d 0 [.ref (g.1 + 20), .int x1] h (some (.int c)) h1 := by
  refine qt_Met.of (plainFor_of_name (by decide)) (Nat.le_of_ble_eq_true rfl) ?_
  have G : qg_i (some (.int c)) h1 ((c, h1)) := ⟨rfl, rfl⟩
  unfold m_X4_isFull at E
  refine qt_iload_n 1 dX4_isFull_0 rfl rfl ?_
  refine qt_iconst dX4_isFull_1 ci_2 ?_
  refine qt_icmp_ne 23 dX4_isFull_2 (by decide) E (fun E => ?_) (fun E => ?_)
  · refine qt_iload_n 1 dX4_isFull_23 rfl rfl ?_
    refine qt_iconst dX4_isFull_24 ci_3 ?_
    refine qt_icmp_ne 46 dX4_isFull_25 (by decide) E (fun E => ?_) (fun E => ?_)
    · refine qt_iload_n 1 dX4_isFull_46 rfl rfl ?_
      refine qt_iconst dX4_isFull_47 ci_3 ?_
      refine qt_icmp_le 66 dX4_isFull_48 (by decide) E (fun E => ?_) (fun E => ?_)
      · refine qt_iconst dX4_isFull_66 ci_0 ?_
        exact qt_zreturn rfl (Or.inl rfl) (Nat.le_of_ble_eq_true rfl) dX4_isFull_67 E G
      · refine qt_aload_n 0 dX4_isFull_51 rfl rfl ?_
        refine qt_getS 14 (wl_20 h) fe_RX4_15 rfl dX4_isFull_52 ?_
        refine qt_getI (wl_14 h) fe_RX4_83 rfl dX4_isFull_55 ?_
        refine qt_iconst dX4_isFull_58 ci_4 ?_
        refine qt_icmp_lt 66 dX4_isFull_59 (by decide) E (fun E => ?_) (fun E => ?_)
        · refine qt_iconst dX4_isFull_66 ci_0 ?_
          exact qt_zreturn rfl (Or.inl rfl) (Nat.le_of_ble_eq_true rfl) dX4_isFull_67 E G
        · refine qt_iconst dX4_isFull_62 ci_1 ?_
          refine qt_goto 67 dX4_isFull_63 (by decide) ?_
          exact qt_zreturn rfl (Or.inr rfl) (Nat.le_of_ble_eq_true rfl) dX4_isFull_67 E G
    · refine qt_aload_n 0 dX4_isFull_28 rfl rfl ?_
      refine qt_getS 14 (wl_20 h) fe_RX4_15 rfl dX4_isFull_29 ?_
      refine qt_getI (wl_14 h) fe_RX4_80 rfl dX4_isFull_32 ?_
      refine qt_bipush dX4_isFull_35 cb_6 ?_
      refine qt_icmp_lt 44 dX4_isFull_37 (by decide) E (fun E => ?_) (fun E => ?_)
      · refine qt_iconst dX4_isFull_44 ci_0 ?_
        exact qt_zreturn rfl (Or.inl rfl) (Nat.le_of_ble_eq_true rfl) dX4_isFull_45 E G
      · refine qt_iconst dX4_isFull_40 ci_1 ?_
        refine qt_goto 45 dX4_isFull_41 (by decide) ?_
        exact qt_zreturn rfl (Or.inr rfl) (Nat.le_of_ble_eq_true rfl) dX4_isFull_45 E G
  · refine qt_aload_n 0 dX4_isFull_5 rfl rfl ?_
    refine qt_getS 14 (wl_20 h) fe_RX4_15 rfl dX4_isFull_6 ?_
    refine qt_getI (wl_14 h) fe_RX4_77 rfl dX4_isFull_9 ?_
    refine qt_bipush dX4_isFull_12 cb_8 ?_
    refine qt_icmp_lt 21 dX4_isFull_14 (by decide) E (fun E => ?_) (fun E => ?_)
    · refine qt_iconst dX4_isFull_21 ci_0 ?_
      exact qt_zreturn rfl (Or.inl rfl) (Nat.le_of_ble_eq_true rfl) dX4_isFull_22 E G
    · refine qt_iconst dX4_isFull_17 ci_1 ?_
      refine qt_goto 22 dX4_isFull_18 (by decide) ?_
      exact qt_zreturn rfl (Or.inr rfl) (Nat.le_of_ble_eq_true rfl) dX4_isFull_22 E G
noncomputable def f_X9_takeNumber_b34 (h : qa_M) : Option (Int32 × qa_M) :=
  qbn (m_X9_failAt (h.1 1 4) (1 : Int32) h) (fun (c40 : Int32) (h40 : qa_M) =>
  qpr (c40 = 0 ∨ c40 = 1) (
  some (c40, h40)))
set_option maxRecDepth 20000 in
theorem s_X9_takeNumber_b34 {l : Launch} {g : qa_G} {d : Nat} {rz : Option Value} {hz : qa_M} (h : qa_M) {z : (Int32 × qa_M)} (E : f_X9_takeNumber_b34 h = some z) (G : (qg_i rz hz) z) : qt_At l g (yX9_takeNumber, cX9_takeNumber, 3, (some .boolean)) (d + 1) 0 0 34 [(0, .ref (g.1 + 1))] [] h rz hz := by
  unfold f_X9_takeNumber_b34 at E
  refine qt_aload_n 0 dX9_takeNumber_34 rfl rfl ?_
  refine qt_aload_n 0 dX9_takeNumber_35 rfl rfl ?_
  refine qt_getI (wl_1 h) fe_RX9_28 rfl dX9_takeNumber_36 ?_
  refine qt_iconst dX9_takeNumber_39 ci_1 ?_
  obtain ⟨c40, h40, e40, E⟩ := qbn_el E
  refine qt_callVi (b2 := 0) [.int (h.1 1 4), .int (1 : Int32)] (c_X9_failAt (h.1 1 4) (1 : Int32) h e40) cv_RX9_46 (wl_1 h) rfl rfl rfl (Nat.le_of_ble_eq_true rfl) (Nat.le_of_ble_eq_true rfl) dX9_takeNumber_40 ?_
  obtain ⟨z43, E⟩ := qpr_el E
  exact qt_zreturn rfl z43 (Nat.le_of_ble_eq_true rfl) dX9_takeNumber_43 E G
noncomputable def m_X9_takeNumber (x1 : Int32) (x2 : Int32) (h : qa_M) : Option (Int32 × qa_M) :=
  if (h.1 1 3) = (1 : Int32) then (
   if (h.1 1 5) < x1 then (
    f_X9_takeNumber_b34 h)
   else (
    if (h.1 1 5) ≤ x2 then (
     qbd (qw_I h 1 6 (h.1 1 5)) (fun h49 : qa_M =>
     qbv (m_X9_scan h49) (fun h53 : qa_M =>
     some ((1 : Int32), h53))))
    else (
     f_X9_takeNumber_b34 h)))
  else (
   qbn (m_X9_failAt (h.1 1 4) (0 : Int32) h) (fun (c14 : Int32) (h14 : qa_M) =>
   qpr (c14 = 0 ∨ c14 = 1) (
   some (c14, h14))))
set_option maxRecDepth 20000 in
theorem c_X9_takeNumber {l : Launch} {g : qa_G} {d : Nat} (x1 : Int32) (x2 : Int32) (h : qa_M) {c : Int32} {h1 : qa_M} (E : m_X9_takeNumber x1 x2 h = some (c, h1)) : qt_Met l g (yX9_takeNumber, cX9_takeNumber, 3, (some .boolean)) (d + 1) 0 [.ref (g.1 + 1), .int x1, .int x2] h (some (.int c)) h1 := by
  refine qt_Met.of (plainFor_of_name (by decide)) (Nat.le_of_ble_eq_true rfl) ?_
  have G : qg_i (some (.int c)) h1 ((c, h1)) := ⟨rfl, rfl⟩
  unfold m_X9_takeNumber at E
  refine qt_aload_n 0 dX9_takeNumber_0 rfl rfl ?_
  refine qt_getI (wl_1 h) fe_RX9_34 rfl dX9_takeNumber_1 ?_
  refine qt_iconst dX9_takeNumber_4 ci_1 ?_
  refine qt_icmp_eq 18 dX9_takeNumber_5 (by decide) E (fun E => ?_) (fun E => ?_)
  · refine qt_aload_n 0 dX9_takeNumber_18 rfl rfl ?_
    refine qt_getI (wl_1 h) fe_RX9_31 rfl dX9_takeNumber_19 ?_
    refine qt_iload_n 1 dX9_takeNumber_22 rfl rfl ?_
    refine qt_icmp_lt 34 dX9_takeNumber_23 (by decide) E (fun E => ?_) (fun E => ?_)
    · exact qt_sub _ [0] rfl ((s_X9_takeNumber_b34 h E G))
    · refine qt_aload_n 0 dX9_takeNumber_26 rfl rfl ?_
      refine qt_getI (wl_1 h) fe_RX9_31 rfl dX9_takeNumber_27 ?_
      refine qt_iload_n 2 dX9_takeNumber_30 rfl rfl ?_
      refine qt_icmp_le 44 dX9_takeNumber_31 (by decide) E (fun E => ?_) (fun E => ?_)
      · refine qt_aload_n 0 dX9_takeNumber_44 rfl rfl ?_
        refine qt_aload_n 0 dX9_takeNumber_45 rfl rfl ?_
        refine qt_getI (wl_1 h) fe_RX9_31 rfl dX9_takeNumber_46 ?_
        refine qt_putI (wl_1 h) fd_RX9_50 rfl rfl rfl dX9_takeNumber_49 E (fun h49 E => ?_)
        refine qt_aload_n 0 dX9_takeNumber_52 rfl rfl ?_
        obtain ⟨h53, e53, E⟩ := qbv_el E
        refine qt_callVv (b2 := 0) [] (c_X9_scan h49 e53) cv_RX9_25 (wl_1 h49) rfl rfl rfl (Nat.le_of_ble_eq_true rfl) (Nat.le_of_ble_eq_true rfl) dX9_takeNumber_53 ?_
        refine qt_iconst dX9_takeNumber_56 ci_1 ?_
        exact qt_zreturn rfl (Or.inr rfl) (Nat.le_of_ble_eq_true rfl) dX9_takeNumber_57 E G
      · exact qt_sub _ [0] rfl ((s_X9_takeNumber_b34 h E G))
  · refine qt_aload_n 0 dX9_takeNumber_8 rfl rfl ?_
    refine qt_aload_n 0 dX9_takeNumber_9 rfl rfl ?_
    refine qt_getI (wl_1 h) fe_RX9_28 rfl dX9_takeNumber_10 ?_
    refine qt_iconst dX9_takeNumber_13 ci_0 ?_
    obtain ⟨c14, h14, e14, E⟩ := qbn_el E
    refine qt_callVi (b2 := 0) [.int (h.1 1 4), .int (0 : Int32)] (c_X9_failAt (h.1 1 4) (0 : Int32) h e14) cv_RX9_46 (wl_1 h) rfl rfl rfl (Nat.le_of_ble_eq_true rfl) (Nat.le_of_ble_eq_true rfl) dX9_takeNumber_14 ?_
    obtain ⟨z17, E⟩ := qpr_el E
    exact qt_zreturn rfl z17 (Nat.le_of_ble_eq_true rfl) dX9_takeNumber_17 E G
noncomputable def m_X4_readWide (h : qa_M) : Option (Int32 × qa_M) :=
  qbn (m_X9_takeNumber (2 : Int32) (6 : Int32) h) (fun (c7 : Int32) (h7 : qa_M) =>
  if c7 = 0 then (
   some ((0 : Int32), h7))
  else (
   qbd (qw_I h7 14 0 (h7.1 1 6)) (fun h26 : qa_M =>
   qbn (m_X9_takeNumber (2 : Int32) (6 : Int32) h26) (fun (c36 : Int32) (h36 : qa_M) =>
   if c36 = 0 then (
    some ((0 : Int32), h36))
   else (
    qbd (qw_I h36 14 1 (h36.1 1 6)) (fun h55 : qa_M =>
    some ((1 : Int32), h55)))))))
set_option maxRecDepth 20000 in
theorem c_X4_readWide {l : Launch} {g : qa_G} {d : Nat} (h : qa_M) {c : Int32} {h1 : qa_M} (E : m_X4_readWide h = some (c, h1)) : qt_Met l g (yX4_readWide, cX4_readWide, 1, (some .boolean)) (d + 2) 0 [.ref (g.1 + 20)] h (some (.int c)) h1 := by
  refine qt_Met.of (plainFor_of_name (by decide)) (Nat.le_of_ble_eq_true rfl) ?_
  have G : qg_i (some (.int c)) h1 ((c, h1)) := ⟨rfl, rfl⟩
  unfold m_X4_readWide at E
  refine qt_aload_n 0 dX4_readWide_0 rfl rfl ?_
  refine qt_getS 1 (wl_20 h) fe_RX4_9 rfl dX4_readWide_1 ?_
  refine qt_iconst dX4_readWide_4 ci_2 ?_
  refine qt_bipush dX4_readWide_5 cb_6 ?_
  obtain ⟨c7, h7, e7, E⟩ := qbn_el E
  refine qt_callVi (b2 := 0) [.int (2 : Int32), .int (6 : Int32)] (c_X9_takeNumber (2 : Int32) (6 : Int32) h e7) cv_RX4_86 (wl_1 h) rfl rfl rfl (Nat.le_of_ble_eq_true rfl) (Nat.le_of_ble_eq_true rfl) dX4_readWide_7 ?_
  refine qt_if_ne 15 dX4_readWide_10 (by decide) E (fun E => ?_) (fun E => ?_)
  · refine qt_aload_n 0 dX4_readWide_15 rfl rfl ?_
    refine qt_getS 14 (wl_20 h7) fe_RX4_15 rfl dX4_readWide_16 ?_
    refine qt_aload_n 0 dX4_readWide_19 rfl rfl ?_
    refine qt_getS 1 (wl_20 h7) fe_RX4_9 rfl dX4_readWide_20 ?_
    refine qt_getI (wl_1 h7) fe_RX4_90 rfl dX4_readWide_23 ?_
    refine qt_putI (wl_14 h7) fd_RX4_93 rfl rfl rfl dX4_readWide_26 E (fun h26 E => ?_)
    refine qt_aload_n 0 dX4_readWide_29 rfl rfl ?_
    refine qt_getS 1 (wl_20 h26) fe_RX4_9 rfl dX4_readWide_30 ?_
    refine qt_iconst dX4_readWide_33 ci_2 ?_
    refine qt_bipush dX4_readWide_34 cb_6 ?_
    obtain ⟨c36, h36, e36, E⟩ := qbn_el E
    refine qt_callVi (b2 := 0) [.int (2 : Int32), .int (6 : Int32)] (c_X9_takeNumber (2 : Int32) (6 : Int32) h26 e36) cv_RX4_86 (wl_1 h26) rfl rfl rfl (Nat.le_of_ble_eq_true rfl) (Nat.le_of_ble_eq_true rfl) dX4_readWide_36 ?_
    refine qt_if_ne 44 dX4_readWide_39 (by decide) E (fun E => ?_) (fun E => ?_)
    · refine qt_aload_n 0 dX4_readWide_44 rfl rfl ?_
      refine qt_getS 14 (wl_20 h36) fe_RX4_15 rfl dX4_readWide_45 ?_
      refine qt_aload_n 0 dX4_readWide_48 rfl rfl ?_
      refine qt_getS 1 (wl_20 h36) fe_RX4_9 rfl dX4_readWide_49 ?_
      refine qt_getI (wl_1 h36) fe_RX4_90 rfl dX4_readWide_52 ?_
      refine qt_putI (wl_14 h36) fd_RX4_96 rfl rfl rfl dX4_readWide_55 E (fun h55 E => ?_)
      refine qt_iconst dX4_readWide_58 ci_1 ?_
      exact qt_zreturn rfl (Or.inr rfl) (Nat.le_of_ble_eq_true rfl) dX4_readWide_59 E G
    · refine qt_iconst dX4_readWide_42 ci_0 ?_
      exact qt_zreturn rfl (Or.inl rfl) (Nat.le_of_ble_eq_true rfl) dX4_readWide_43 E G
  · refine qt_iconst dX4_readWide_13 ci_0 ?_
    exact qt_zreturn rfl (Or.inl rfl) (Nat.le_of_ble_eq_true rfl) dX4_readWide_14 E G
noncomputable def m_X4_readSquare (h : qa_M) : Option (Int32 × qa_M) :=
  qbn (m_X9_takeNumber (0 : Int32) ((h.1 14 0) - (1 : Int32)) h) (fun (c14 : Int32) (h14 : qa_M) =>
  if c14 = 0 then (
   some ((0 : Int32), h14))
  else (
   qbd (qw_I h14 20 2 (h14.1 1 6)) (fun h30 : qa_M =>
   qbn (m_X9_takeNumber (0 : Int32) ((h30.1 14 1) - (1 : Int32)) h30) (fun (c47 : Int32) (h47 : qa_M) =>
   if c47 = 0 then (
    some ((0 : Int32), h47))
   else (
    qbd (qw_I h47 20 3 (h47.1 1 6)) (fun h63 : qa_M =>
    some ((1 : Int32), h63)))))))
set_option maxRecDepth 20000 in
theorem c_X4_readSquare {l : Launch} {g : qa_G} {d : Nat} (h : qa_M) {c : Int32} {h1 : qa_M} (E : m_X4_readSquare h = some (c, h1)) : qt_Met l g (yX4_readSquare, cX4_readSquare, 1, (some .boolean)) (d + 2) 0 [.ref (g.1 + 20)] h (some (.int c)) h1 := by
  refine qt_Met.of (plainFor_of_name (by decide)) (Nat.le_of_ble_eq_true rfl) ?_
  have G : qg_i (some (.int c)) h1 ((c, h1)) := ⟨rfl, rfl⟩
  unfold m_X4_readSquare at E
  refine qt_aload_n 0 dX4_readSquare_0 rfl rfl ?_
  refine qt_getS 1 (wl_20 h) fe_RX4_9 rfl dX4_readSquare_1 ?_
  refine qt_iconst dX4_readSquare_4 ci_0 ?_
  refine qt_aload_n 0 dX4_readSquare_5 rfl rfl ?_
  refine qt_getS 14 (wl_20 h) fe_RX4_15 rfl dX4_readSquare_6 ?_
  refine qt_getI (wl_14 h) fe_RX4_93 rfl dX4_readSquare_9 ?_
  refine qt_iconst dX4_readSquare_12 ci_1 ?_
  refine qt_isub dX4_readSquare_13 ?_
  obtain ⟨c14, h14, e14, E⟩ := qbn_el E
  refine qt_callVi (b2 := 0) [.int (0 : Int32), .int ((h.1 14 0) - (1 : Int32))] (c_X9_takeNumber (0 : Int32) ((h.1 14 0) - (1 : Int32)) h e14) cv_RX4_86 (wl_1 h) rfl rfl rfl (Nat.le_of_ble_eq_true rfl) (Nat.le_of_ble_eq_true rfl) dX4_readSquare_14 ?_
  refine qt_if_ne 22 dX4_readSquare_17 (by decide) E (fun E => ?_) (fun E => ?_)
  · refine qt_aload_n 0 dX4_readSquare_22 rfl rfl ?_
    refine qt_aload_n 0 dX4_readSquare_23 rfl rfl ?_
    refine qt_getS 1 (wl_20 h14) fe_RX4_9 rfl dX4_readSquare_24 ?_
    refine qt_getI (wl_1 h14) fe_RX4_90 rfl dX4_readSquare_27 ?_
    refine qt_putI (wl_20 h14) fd_RX4_99 rfl rfl rfl dX4_readSquare_30 E (fun h30 E => ?_)
    refine qt_aload_n 0 dX4_readSquare_33 rfl rfl ?_
    refine qt_getS 1 (wl_20 h30) fe_RX4_9 rfl dX4_readSquare_34 ?_
    refine qt_iconst dX4_readSquare_37 ci_0 ?_
    refine qt_aload_n 0 dX4_readSquare_38 rfl rfl ?_
    refine qt_getS 14 (wl_20 h30) fe_RX4_15 rfl dX4_readSquare_39 ?_
    refine qt_getI (wl_14 h30) fe_RX4_96 rfl dX4_readSquare_42 ?_
    refine qt_iconst dX4_readSquare_45 ci_1 ?_
    refine qt_isub dX4_readSquare_46 ?_
    obtain ⟨c47, h47, e47, E⟩ := qbn_el E
    refine qt_callVi (b2 := 0) [.int (0 : Int32), .int ((h30.1 14 1) - (1 : Int32))] (c_X9_takeNumber (0 : Int32) ((h30.1 14 1) - (1 : Int32)) h30 e47) cv_RX4_86 (wl_1 h30) rfl rfl rfl (Nat.le_of_ble_eq_true rfl) (Nat.le_of_ble_eq_true rfl) dX4_readSquare_47 ?_
    refine qt_if_ne 55 dX4_readSquare_50 (by decide) E (fun E => ?_) (fun E => ?_)
    · refine qt_aload_n 0 dX4_readSquare_55 rfl rfl ?_
      refine qt_aload_n 0 dX4_readSquare_56 rfl rfl ?_
      refine qt_getS 1 (wl_20 h47) fe_RX4_9 rfl dX4_readSquare_57 ?_
      refine qt_getI (wl_1 h47) fe_RX4_90 rfl dX4_readSquare_60 ?_
      refine qt_putI (wl_20 h47) fd_RX4_102 rfl rfl rfl dX4_readSquare_63 E (fun h63 E => ?_)
      refine qt_iconst dX4_readSquare_66 ci_1 ?_
      exact qt_zreturn rfl (Or.inr rfl) (Nat.le_of_ble_eq_true rfl) dX4_readSquare_67 E G
    · refine qt_iconst dX4_readSquare_53 ci_0 ?_
      exact qt_zreturn rfl (Or.inl rfl) (Nat.le_of_ble_eq_true rfl) dX4_readSquare_54 E G
  · refine qt_iconst dX4_readSquare_20 ci_0 ?_
    exact qt_zreturn rfl (Or.inl rfl) (Nat.le_of_ble_eq_true rfl) dX4_readSquare_21 E G
noncomputable def m_X4_readBox (h : qa_M) : Option (Int32 × qa_M) :=
  qbn (m_X4_readSquare h) (fun (c1 : Int32) (h1 : qa_M) =>
  if c1 = 0 then (
   some ((0 : Int32), h1))
  else (
   qbn (m_X9_takeNumber (h1.1 20 2) ((h1.1 14 0) - (1 : Int32)) h1) (fun (c24 : Int32) (h24 : qa_M) =>
   if c24 = 0 then (
    some ((0 : Int32), h24))
   else (
    qbd (qw_I h24 20 4 (h24.1 1 6)) (fun h40 : qa_M =>
    qbn (m_X9_takeNumber (h40.1 20 3) ((h40.1 14 1) - (1 : Int32)) h40) (fun (c60 : Int32) (h60 : qa_M) =>
    if c60 = 0 then (
     some ((0 : Int32), h60))
    else (
     qbd (qw_I h60 20 5 (h60.1 1 6)) (fun h76 : qa_M =>
     some ((1 : Int32), h76)))))))))
set_option maxRecDepth 20000 in
theorem c_X4_readBox {l : Launch} {g : qa_G} {d : Nat} (h : qa_M) {c : Int32} {h1 : qa_M} (E : m_X4_readBox h = some (c, h1)) : qt_Met l g (yX4_readBox, cX4_readBox, 1, (some .boolean)) (d + 3) 0 [.ref (g.1 + 20)] h (some (.int c)) h1 := by
  refine qt_Met.of (plainFor_of_name (by decide)) (Nat.le_of_ble_eq_true rfl) ?_
  have G : qg_i (some (.int c)) h1 ((c, h1)) := ⟨rfl, rfl⟩
  unfold m_X4_readBox at E
  refine qt_aload_n 0 dX4_readBox_0 rfl rfl ?_
  obtain ⟨c1, h1, e1, E⟩ := qbn_el E
  refine qt_callVi (b2 := 0) [] (c_X4_readSquare h e1) cv_RX4_105 (wl_20 h) rfl rfl rfl (Nat.le_of_ble_eq_true rfl) (Nat.le_of_ble_eq_true rfl) dX4_readBox_1 ?_
  refine qt_if_eq 30 dX4_readBox_4 (by decide) E (fun E => ?_) (fun E => ?_)
  · refine qt_iconst dX4_readBox_30 ci_0 ?_
    exact qt_zreturn rfl (Or.inl rfl) (Nat.le_of_ble_eq_true rfl) dX4_readBox_31 E G
  · refine qt_aload_n 0 dX4_readBox_7 rfl rfl ?_
    refine qt_getS 1 (wl_20 h1) fe_RX4_9 rfl dX4_readBox_8 ?_
    refine qt_aload_n 0 dX4_readBox_11 rfl rfl ?_
    refine qt_getI (wl_20 h1) fe_RX4_99 rfl dX4_readBox_12 ?_
    refine qt_aload_n 0 dX4_readBox_15 rfl rfl ?_
    refine qt_getS 14 (wl_20 h1) fe_RX4_15 rfl dX4_readBox_16 ?_
    refine qt_getI (wl_14 h1) fe_RX4_93 rfl dX4_readBox_19 ?_
    refine qt_iconst dX4_readBox_22 ci_1 ?_
    refine qt_isub dX4_readBox_23 ?_
    obtain ⟨c24, h24, e24, E⟩ := qbn_el E
    refine qt_callVi (b2 := 0) [.int (h1.1 20 2), .int ((h1.1 14 0) - (1 : Int32))] (c_X9_takeNumber (h1.1 20 2) ((h1.1 14 0) - (1 : Int32)) h1 e24) cv_RX4_86 (wl_1 h1) rfl rfl rfl (Nat.le_of_ble_eq_true rfl) (Nat.le_of_ble_eq_true rfl) dX4_readBox_24 ?_
    refine qt_if_ne 32 dX4_readBox_27 (by decide) E (fun E => ?_) (fun E => ?_)
    · refine qt_aload_n 0 dX4_readBox_32 rfl rfl ?_
      refine qt_aload_n 0 dX4_readBox_33 rfl rfl ?_
      refine qt_getS 1 (wl_20 h24) fe_RX4_9 rfl dX4_readBox_34 ?_
      refine qt_getI (wl_1 h24) fe_RX4_90 rfl dX4_readBox_37 ?_
      refine qt_putI (wl_20 h24) fd_RX4_108 rfl rfl rfl dX4_readBox_40 E (fun h40 E => ?_)
      refine qt_aload_n 0 dX4_readBox_43 rfl rfl ?_
      refine qt_getS 1 (wl_20 h40) fe_RX4_9 rfl dX4_readBox_44 ?_
      refine qt_aload_n 0 dX4_readBox_47 rfl rfl ?_
      refine qt_getI (wl_20 h40) fe_RX4_102 rfl dX4_readBox_48 ?_
      refine qt_aload_n 0 dX4_readBox_51 rfl rfl ?_
      refine qt_getS 14 (wl_20 h40) fe_RX4_15 rfl dX4_readBox_52 ?_
      refine qt_getI (wl_14 h40) fe_RX4_96 rfl dX4_readBox_55 ?_
      refine qt_iconst dX4_readBox_58 ci_1 ?_
      refine qt_isub dX4_readBox_59 ?_
      obtain ⟨c60, h60, e60, E⟩ := qbn_el E
      refine qt_callVi (b2 := 0) [.int (h40.1 20 3), .int ((h40.1 14 1) - (1 : Int32))] (c_X9_takeNumber (h40.1 20 3) ((h40.1 14 1) - (1 : Int32)) h40 e60) cv_RX4_86 (wl_1 h40) rfl rfl rfl (Nat.le_of_ble_eq_true rfl) (Nat.le_of_ble_eq_true rfl) dX4_readBox_60 ?_
      refine qt_if_ne 68 dX4_readBox_63 (by decide) E (fun E => ?_) (fun E => ?_)
      · refine qt_aload_n 0 dX4_readBox_68 rfl rfl ?_
        refine qt_aload_n 0 dX4_readBox_69 rfl rfl ?_
        refine qt_getS 1 (wl_20 h60) fe_RX4_9 rfl dX4_readBox_70 ?_
        refine qt_getI (wl_1 h60) fe_RX4_90 rfl dX4_readBox_73 ?_
        refine qt_putI (wl_20 h60) fd_RX4_111 rfl rfl rfl dX4_readBox_76 E (fun h76 E => ?_)
        refine qt_iconst dX4_readBox_79 ci_1 ?_
        exact qt_zreturn rfl (Or.inr rfl) (Nat.le_of_ble_eq_true rfl) dX4_readBox_80 E G
      · refine qt_iconst dX4_readBox_66 ci_0 ?_
        exact qt_zreturn rfl (Or.inl rfl) (Nat.le_of_ble_eq_true rfl) dX4_readBox_67 E G
    · refine qt_iconst dX4_readBox_30 ci_0 ?_
      exact qt_zreturn rfl (Or.inl rfl) (Nat.le_of_ble_eq_true rfl) dX4_readBox_31 E G
noncomputable def m_X2_bit (x0 : Int32) (x1 : Int32) (h : qa_M) : Option (Int64 × qa_M) :=
  some ((q_lshl (1 : Int64) (((6 : Int32) * x1) + x0)), h)
set_option maxRecDepth 20000 in
theorem c_X2_bit {l : Launch} {g : qa_G} {d : Nat} (x0 : Int32) (x1 : Int32) (h : qa_M) {c : Int64} {h1 : qa_M} (E : m_X2_bit x0 x1 h = some (c, h1)) : qt_Met l g (yX2_bit, cX2_bit, 2, (some .long)) d 0 [.int x0, .int x1] h (some (.long c)) h1 := by
  refine qt_Met.of (plainFor_of_name (by decide)) (Nat.le_of_ble_eq_true rfl) ?_
  have G : qg_l (some (.long c)) h1 ((c, h1)) := ⟨rfl, rfl⟩
  unfold m_X2_bit at E
  refine qt_lconst dX2_bit_0 cl_1 ?_
  refine qt_bipush dX2_bit_1 cb_6 ?_
  refine qt_iload_n 1 dX2_bit_3 rfl rfl ?_
  refine qt_imul dX2_bit_4 ?_
  refine qt_iload_n 0 dX2_bit_5 rfl rfl ?_
  refine qt_iadd dX2_bit_6 ?_
  refine qt_lshl dX2_bit_7 ?_
  exact qt_lreturn rfl (Nat.le_of_ble_eq_true rfl) dX2_bit_8 E G
noncomputable def f_X2_box_b39 (x0 : Int32) (x2 : Int32) (x3 : Int32) (x4 : Int64) (x6 : Int32) (h : qa_M) : Option ((Int32 × Int32 × Int32 × Int64 × Int32 × qa_M) ⊕ (Int64 × qa_M)) :=
  qbd (x6 + (1 : Int32)) (fun v39 : Int32 =>
  some (.inl (x0, x2, x3, x4, v39, h)))
set_option maxRecDepth 20000 in
theorem s_X2_box_b39 {l : Launch} {g : qa_G} {d : Nat} {rz : Option Value} {hz : qa_M} (x0 : Int32) (x2 : Int32) (x3 : Int32) (x4 : Int64) (x6 : Int32) (h : qa_M) {z : ((Int32 × Int32 × Int32 × Int64 × Int32 × qa_M) ⊕ (Int64 × qa_M))} (E : f_X2_box_b39 x0 x2 x3 x4 x6 h = some z) (G : (Sum.elim (fun (sz : Int32 × Int32 × Int32 × Int64 × Int32 × qa_M) => qt_At l g (yX2_box, cX2_box, 8, (some .long)) (d + 1) 0 0 6 [(0, .int sz.1), (2, .int sz.2.1), (3, .int sz.2.2.1), (4, .long sz.2.2.2.1), (6, .int sz.2.2.2.2.1)] [] sz.2.2.2.2.2 rz hz) (qg_l rz hz)) z) : qt_At l g (yX2_box, cX2_box, 8, (some .long)) (d + 1) 0 0 39 [(0, .int x0), (2, .int x2), (3, .int x3), (4, .long x4), (6, .int x6)] [] h rz hz := by
  unfold f_X2_box_b39 at E
  refine qt_iinc 4 (fun v39 => [(6, .int v39), (0, .int x0), (2, .int x2), (3, .int x3), (4, .long x4)]) dX2_box_39 rfl ci_1 (Nat.le_of_ble_eq_true rfl) (fun _ => rfl) E (fun v39 E => ?_)
  refine qt_goto 6 dX2_box_42 (by decide) ?_
  cases E
  exact qt_sub _ [1, 2, 3, 4, 0] rfl (G)
noncomputable def f_X2_box_b15 (x0 : Int32) (x2 : Int32) (x3 : Int32) (x4 : Int64) (x6 : Int32) (x7 : Int32) (h : qa_M) : Option ((Int32 × Int32 × Int32 × Int64 × Int32 × Int32 × qa_M) ⊕ ((Int32 × Int32 × Int32 × Int64 × Int32 × qa_M) ⊕ (Int64 × qa_M))) :=
  if x2 < x7 then (
   qup (f_X2_box_b39 x0 x2 x3 x4 x6 h))
  else (
   qbn (m_X2_bit x7 x6 h) (fun (c27 : Int64) (h27 : qa_M) =>
   qbd (x4 ||| c27) (fun v31 : Int64 =>
   qbd (x7 + (1 : Int32)) (fun v33 : Int32 =>
   some (.inl (x0, x2, x3, v31, x6, v33, h27))))))
set_option maxRecDepth 20000 in
theorem s_X2_box_b15 {l : Launch} {g : qa_G} {d : Nat} {rz : Option Value} {hz : qa_M} (x0 : Int32) (x2 : Int32) (x3 : Int32) (x4 : Int64) (x6 : Int32) (x7 : Int32) (h : qa_M) {z : ((Int32 × Int32 × Int32 × Int64 × Int32 × Int32 × qa_M) ⊕ ((Int32 × Int32 × Int32 × Int64 × Int32 × qa_M) ⊕ (Int64 × qa_M)))} (E : f_X2_box_b15 x0 x2 x3 x4 x6 x7 h = some z) (G : (Sum.elim (fun (sz : Int32 × Int32 × Int32 × Int64 × Int32 × Int32 × qa_M) => qt_At l g (yX2_box, cX2_box, 8, (some .long)) (d + 1) 0 0 15 [(0, .int sz.1), (2, .int sz.2.1), (3, .int sz.2.2.1), (4, .long sz.2.2.2.1), (6, .int sz.2.2.2.2.1), (7, .int sz.2.2.2.2.2.1)] [] sz.2.2.2.2.2.2 rz hz) (Sum.elim (fun (sz : Int32 × Int32 × Int32 × Int64 × Int32 × qa_M) => qt_At l g (yX2_box, cX2_box, 8, (some .long)) (d + 1) 0 0 6 [(0, .int sz.1), (2, .int sz.2.1), (3, .int sz.2.2.1), (4, .long sz.2.2.2.1), (6, .int sz.2.2.2.2.1)] [] sz.2.2.2.2.2 rz hz) (qg_l rz hz))) z) : qt_At l g (yX2_box, cX2_box, 8, (some .long)) (d + 1) 0 0 15 [(0, .int x0), (2, .int x2), (3, .int x3), (4, .long x4), (6, .int x6), (7, .int x7)] [] h rz hz := by
  unfold f_X2_box_b15 at E
  refine qt_iload 5 dX2_box_15 rfl ?_
  refine qt_iload_n 1 dX2_box_17 rfl rfl ?_
  refine qt_icmp_gt 39 dX2_box_18 (by decide) E (fun E => ?_) (fun E => ?_)
  · obtain ⟨z0_, E, G⟩ := qup_g E G
    exact qt_sub _ [0, 1, 2, 3, 4] rfl ((s_X2_box_b39 x0 x2 x3 x4 x6 h E G))
  · refine qt_lload 3 dX2_box_21 rfl ?_
    refine qt_iload 5 dX2_box_23 rfl ?_
    refine qt_iload 4 dX2_box_25 rfl ?_
    obtain ⟨c27, h27, e27, E⟩ := qbn_el E
    refine qt_callSl (b2 := 0) [.int x7, .int x6] (c_X2_bit x7 x6 h e27) cv_RX2_11 rfl (Nat.le_of_ble_eq_true rfl) (Nat.le_of_ble_eq_true rfl) dX2_box_27 ?_
    refine qt_lor dX2_box_30 ?_
    refine qt_lstore (fun v31 => [(4, .long v31), (0, .int x0), (2, .int x2), (3, .int x3), (6, .int x6), (7, .int x7)]) dX2_box_31 (Nat.le_of_ble_eq_true rfl) (fun _ => rfl) E (fun v31 E => ?_)
    refine qt_iinc 5 (fun v33 => [(7, .int v33), (4, .long v31), (0, .int x0), (2, .int x2), (3, .int x3), (6, .int x6)]) dX2_box_33 rfl ci_1 (Nat.le_of_ble_eq_true rfl) (fun _ => rfl) E (fun v33 E => ?_)
    refine qt_goto 15 dX2_box_36 (by decide) ?_
    cases E
    exact qt_sub _ [2, 3, 4, 1, 5, 0] rfl (G)
noncomputable def f_X2_box_b15_loop (x0 : Int32) (x2 : Int32) (x3 : Int32) (x4 : Int64) (x6 : Int32) (x7 : Int32) (h : qa_M) : Option ((Int32 × Int32 × Int32 × Int64 × Int32 × qa_M) ⊕ (Int64 × qa_M)) := qlp (fun sz : Int32 × Int32 × Int32 × Int64 × Int32 × Int32 × qa_M => f_X2_box_b15 sz.1 sz.2.1 sz.2.2.1 sz.2.2.2.1 sz.2.2.2.2.1 sz.2.2.2.2.2.1 sz.2.2.2.2.2.2) (x0, x2, x3, x4, x6, x7, h)
theorem s_X2_box_b15_loop {l : Launch} {g : qa_G} {d : Nat} {rz : Option Value} {hz : qa_M} (x0 : Int32) (x2 : Int32) (x3 : Int32) (x4 : Int64) (x6 : Int32) (x7 : Int32) (h : qa_M) {z : ((Int32 × Int32 × Int32 × Int64 × Int32 × qa_M) ⊕ (Int64 × qa_M))} (E : f_X2_box_b15_loop x0 x2 x3 x4 x6 x7 h = some z) (G : (Sum.elim (fun (sz : Int32 × Int32 × Int32 × Int64 × Int32 × qa_M) => qt_At l g (yX2_box, cX2_box, 8, (some .long)) (d + 1) 0 0 6 [(0, .int sz.1), (2, .int sz.2.1), (3, .int sz.2.2.1), (4, .long sz.2.2.2.1), (6, .int sz.2.2.2.2.1)] [] sz.2.2.2.2.2 rz hz) (qg_l rz hz)) z) : qt_At l g (yX2_box, cX2_box, 8, (some .long)) (d + 1) 0 0 15 [(0, .int x0), (2, .int x2), (3, .int x3), (4, .long x4), (6, .int x6), (7, .int x7)] [] h rz hz :=
  qlp_ind (fun sz : Int32 × Int32 × Int32 × Int64 × Int32 × Int32 × qa_M => qt_At l g (yX2_box, cX2_box, 8, (some .long)) (d + 1) 0 0 15 [(0, .int sz.1), (2, .int sz.2.1), (3, .int sz.2.2.1), (4, .long sz.2.2.2.1), (6, .int sz.2.2.2.2.1), (7, .int sz.2.2.2.2.2.1)] [] sz.2.2.2.2.2.2 rz hz) (fun sz E => s_X2_box_b15 sz.1 sz.2.1 sz.2.2.1 sz.2.2.2.1 sz.2.2.2.2.1 sz.2.2.2.2.2.1 sz.2.2.2.2.2.2 E G) (fun sz sz2 E ih => s_X2_box_b15 sz.1 sz.2.1 sz.2.2.1 sz.2.2.2.1 sz.2.2.2.2.1 sz.2.2.2.2.2.1 sz.2.2.2.2.2.2 E ih) (x0, x2, x3, x4, x6, x7, h) E
noncomputable def f_X2_box_b6 (x0 : Int32) (x2 : Int32) (x3 : Int32) (x4 : Int64) (x6 : Int32) (h : qa_M) : Option ((Int32 × Int32 × Int32 × Int64 × Int32 × qa_M) ⊕ (Int64 × qa_M)) :=
  if x3 < x6 then (
   qup (some (x4, h)))
  else (
   qbd x0 (fun v13 : Int32 =>
   f_X2_box_b15_loop x0 x2 x3 x4 x6 v13 h))
set_option maxRecDepth 20000 in
theorem s_X2_box_b6 {l : Launch} {g : qa_G} {d : Nat} {rz : Option Value} {hz : qa_M} (x0 : Int32) (x2 : Int32) (x3 : Int32) (x4 : Int64) (x6 : Int32) (h : qa_M) {z : ((Int32 × Int32 × Int32 × Int64 × Int32 × qa_M) ⊕ (Int64 × qa_M))} (E : f_X2_box_b6 x0 x2 x3 x4 x6 h = some z) (G : (Sum.elim (fun (sz : Int32 × Int32 × Int32 × Int64 × Int32 × qa_M) => qt_At l g (yX2_box, cX2_box, 8, (some .long)) (d + 1) 0 0 6 [(0, .int sz.1), (2, .int sz.2.1), (3, .int sz.2.2.1), (4, .long sz.2.2.2.1), (6, .int sz.2.2.2.2.1)] [] sz.2.2.2.2.2 rz hz) (qg_l rz hz)) z) : qt_At l g (yX2_box, cX2_box, 8, (some .long)) (d + 1) 0 0 6 [(0, .int x0), (2, .int x2), (3, .int x3), (4, .long x4), (6, .int x6)] [] h rz hz := by
  unfold f_X2_box_b6 at E
  refine qt_iload 4 dX2_box_6 rfl ?_
  refine qt_iload_n 2 dX2_box_8 rfl rfl ?_
  refine qt_icmp_gt 45 dX2_box_9 (by decide) E (fun E => ?_) (fun E => ?_)
  · refine qt_lload 3 dX2_box_45 rfl ?_
    obtain ⟨z0_, E, G⟩ := qup_g E G
    exact qt_lreturn rfl (Nat.le_of_ble_eq_true rfl) dX2_box_47 E G
  · refine qt_iload_n 0 dX2_box_12 rfl rfl ?_
    refine qt_istore (fun v13 => [(7, .int v13), (0, .int x0), (2, .int x2), (3, .int x3), (4, .long x4), (6, .int x6)]) dX2_box_13 (Nat.le_of_ble_eq_true rfl) (fun _ => rfl) E (fun v13 E => ?_)
    exact qt_sub _ [1, 2, 3, 4, 5, 0] rfl ((s_X2_box_b15_loop x0 x2 x3 x4 x6 v13 h E G))
noncomputable def f_X2_box_b6_loop (x0 : Int32) (x2 : Int32) (x3 : Int32) (x4 : Int64) (x6 : Int32) (h : qa_M) : Option (Int64 × qa_M) := qlp (fun sz : Int32 × Int32 × Int32 × Int64 × Int32 × qa_M => f_X2_box_b6 sz.1 sz.2.1 sz.2.2.1 sz.2.2.2.1 sz.2.2.2.2.1 sz.2.2.2.2.2) (x0, x2, x3, x4, x6, h)
theorem s_X2_box_b6_loop {l : Launch} {g : qa_G} {d : Nat} {rz : Option Value} {hz : qa_M} (x0 : Int32) (x2 : Int32) (x3 : Int32) (x4 : Int64) (x6 : Int32) (h : qa_M) {z : (Int64 × qa_M)} (E : f_X2_box_b6_loop x0 x2 x3 x4 x6 h = some z) (G : (qg_l rz hz) z) : qt_At l g (yX2_box, cX2_box, 8, (some .long)) (d + 1) 0 0 6 [(0, .int x0), (2, .int x2), (3, .int x3), (4, .long x4), (6, .int x6)] [] h rz hz :=
  qlp_ind (fun sz : Int32 × Int32 × Int32 × Int64 × Int32 × qa_M => qt_At l g (yX2_box, cX2_box, 8, (some .long)) (d + 1) 0 0 6 [(0, .int sz.1), (2, .int sz.2.1), (3, .int sz.2.2.1), (4, .long sz.2.2.2.1), (6, .int sz.2.2.2.2.1)] [] sz.2.2.2.2.2 rz hz) (fun sz E => s_X2_box_b6 sz.1 sz.2.1 sz.2.2.1 sz.2.2.2.1 sz.2.2.2.2.1 sz.2.2.2.2.2 E G) (fun sz sz2 E ih => s_X2_box_b6 sz.1 sz.2.1 sz.2.2.1 sz.2.2.2.1 sz.2.2.2.2.1 sz.2.2.2.2.2 E ih) (x0, x2, x3, x4, x6, h) E
noncomputable def m_X2_box (x0 : Int32) (x1 : Int32) (x2 : Int32) (x3 : Int32) (h : qa_M) : Option (Int64 × qa_M) :=
  qbd (0 : Int64) (fun v1 : Int64 =>
  qbd x1 (fun v4 : Int32 =>
  f_X2_box_b6_loop x0 x2 x3 v1 v4 h))
set_option maxRecDepth 20000 in
theorem c_X2_box {l : Launch} {g : qa_G} {d : Nat} (x0 : Int32) (x1 : Int32) (x2 : Int32) (x3 : Int32) (h : qa_M) {c : Int64} {h1 : qa_M} (E : m_X2_box x0 x1 x2 x3 h = some (c, h1)) : qt_Met l g (yX2_box, cX2_box, 8, (some .long)) (d + 1) 0 [.int x0, .int x1, .int x2, .int x3] h (some (.long c)) h1 := by
  refine qt_Met.of (plainFor_of_name (by decide)) (Nat.le_of_ble_eq_true rfl) ?_
  have G : qg_l (some (.long c)) h1 ((c, h1)) := ⟨rfl, rfl⟩
  unfold m_X2_box at E
  refine qt_lconst dX2_box_0 cl_0 ?_
  refine qt_lstore (fun v1 => [(4, .long v1), (0, .int x0), (1, .int x1), (2, .int x2), (3, .int x3)]) dX2_box_1 (Nat.le_of_ble_eq_true rfl) (fun _ => rfl) E (fun v1 E => ?_)
  refine qt_iload_n 2 dX2_box_3 rfl rfl ?_
  refine qt_istore (fun v4 => [(6, .int v4), (4, .long v1), (0, .int x0), (1, .int x1), (2, .int x2), (3, .int x3)]) dX2_box_4 (Nat.le_of_ble_eq_true rfl) (fun _ => rfl) E (fun v4 E => ?_)
  exact qt_sub _ [2, 4, 5, 1, 0] rfl ((s_X2_box_b6_loop x0 x2 x3 v1 v4 h E G))
noncomputable def m_X4_readWood (h : qa_M) : Option (Int32 × qa_M) :=
  qbn (m_X4_readBox h) (fun (c1 : Int32) (h1 : qa_M) =>
  if c1 = 0 then (
   some ((0 : Int32), h1))
  else (
   qbn (m_X2_box (h1.1 20 2) (h1.1 20 3) (h1.1 20 4) (h1.1 20 5) h1) (fun (c33 : Int64) (h33 : qa_M) =>
   qbd (qw_J h33 14 7 ((h1.2.1 14 7) ||| c33)) (fun h37 : qa_M =>
   some ((1 : Int32), h37)))))
set_option maxRecDepth 20000 in
theorem c_X4_readWood {l : Launch} {g : qa_G} {d : Nat} (h : qa_M) {c : Int32} {h1 : qa_M} (E : m_X4_readWood h = some (c, h1)) : qt_Met l g (yX4_readWood, cX4_readWood, 1, (some .boolean)) (d + 4) 0 [.ref (g.1 + 20)] h (some (.int c)) h1 := by
  refine qt_Met.of (plainFor_of_name (by decide)) (Nat.le_of_ble_eq_true rfl) ?_
  have G : qg_i (some (.int c)) h1 ((c, h1)) := ⟨rfl, rfl⟩
  unfold m_X4_readWood at E
  refine qt_aload_n 0 dX4_readWood_0 rfl rfl ?_
  obtain ⟨c1, h1, e1, E⟩ := qbn_el E
  refine qt_callVi (b2 := 0) [] (c_X4_readBox h e1) cv_RX4_114 (wl_20 h) rfl rfl rfl (Nat.le_of_ble_eq_true rfl) (Nat.le_of_ble_eq_true rfl) dX4_readWood_1 ?_
  refine qt_if_ne 9 dX4_readWood_4 (by decide) E (fun E => ?_) (fun E => ?_)
  · refine qt_aload_n 0 dX4_readWood_9 rfl rfl ?_
    refine qt_getS 14 (wl_20 h1) fe_RX4_15 rfl dX4_readWood_10 ?_
    refine qt_dup dX4_readWood_13 rfl ?_
    refine qt_getJ (wl_14 h1) fe_RX4_117 rfl dX4_readWood_14 ?_
    refine qt_aload_n 0 dX4_readWood_17 rfl rfl ?_
    refine qt_getI (wl_20 h1) fe_RX4_99 rfl dX4_readWood_18 ?_
    refine qt_aload_n 0 dX4_readWood_21 rfl rfl ?_
    refine qt_getI (wl_20 h1) fe_RX4_102 rfl dX4_readWood_22 ?_
    refine qt_aload_n 0 dX4_readWood_25 rfl rfl ?_
    refine qt_getI (wl_20 h1) fe_RX4_108 rfl dX4_readWood_26 ?_
    refine qt_aload_n 0 dX4_readWood_29 rfl rfl ?_
    refine qt_getI (wl_20 h1) fe_RX4_111 rfl dX4_readWood_30 ?_
    obtain ⟨c33, h33, e33, E⟩ := qbn_el E
    refine qt_callSl (b2 := 0) [.int (h1.1 20 2), .int (h1.1 20 3), .int (h1.1 20 4), .int (h1.1 20 5)] (c_X2_box (h1.1 20 2) (h1.1 20 3) (h1.1 20 4) (h1.1 20 5) h1 e33) cv_RX4_121 rfl (Nat.le_of_ble_eq_true rfl) (Nat.le_of_ble_eq_true rfl) dX4_readWood_33 ?_
    refine qt_lor dX4_readWood_36 ?_
    refine qt_putJ (wl_14 h33) fd_RX4_117 rfl dX4_readWood_37 E (fun h37 E => ?_)
    refine qt_iconst dX4_readWood_40 ci_1 ?_
    exact qt_zreturn rfl (Or.inr rfl) (Nat.le_of_ble_eq_true rfl) dX4_readWood_41 E G
  · refine qt_iconst dX4_readWood_7 ci_0 ?_
    exact qt_zreturn rfl (Or.inl rfl) (Nat.le_of_ble_eq_true rfl) dX4_readWood_8 E G
noncomputable def f_X3_hillOn_b2 (a0 : Nat) (x1 : Int32) (x2 : Int32) (h : qa_M) : Option ((Int32 × Int32 × qa_M) ⊕ (Int32 × qa_M)) :=
  if (h.1 a0 2) ≤ x2 then (
   qup (some ((-1 : Int32), h)))
  else (
   qck x2 8 (
   if (h.1 (a0 + 1) x2.toNatClampNeg) = x1 then (
    qup (some (x2, h)))
   else (
    qbd (x2 + (1 : Int32)) (fun v22 : Int32 =>
    some (.inl (x1, v22, h))))))
set_option maxRecDepth 20000 in
theorem s_X3_hillOn_b2 {l : Launch} {g : qa_G} {d : Nat} {rz : Option Value} {hz : qa_M} (a0 : Nat) (ha0 : qLand a0) (x1 : Int32) (x2 : Int32) (h : qa_M) {z : ((Int32 × Int32 × qa_M) ⊕ (Int32 × qa_M))} (E : f_X3_hillOn_b2 a0 x1 x2 h = some z) (G : (Sum.elim (fun (sz : Int32 × Int32 × qa_M) => qt_At l g (yX3_hillOn, cX3_hillOn, 3, (some .int)) d 0 0 2 [(0, .ref (g.1 + a0)), (1, .int sz.1), (2, .int sz.2.1)] [] sz.2.2 rz hz) (qg_i rz hz)) z) : qt_At l g (yX3_hillOn, cX3_hillOn, 3, (some .int)) d 0 0 2 [(0, .ref (g.1 + a0)), (1, .int x1), (2, .int x2)] [] h rz hz := by
  unfold f_X3_hillOn_b2 at E
  refine qt_iload_n 2 dX3_hillOn_2 rfl rfl ?_
  refine qt_aload_n 0 dX3_hillOn_3 rfl rfl ?_
  refine qt_getI (wl_Land_0 ha0 h) fe_RX3_35 rfl dX3_hillOn_4 ?_
  refine qt_icmp_ge 28 dX3_hillOn_7 (by decide) E (fun E => ?_) (fun E => ?_)
  · refine qt_iconst dX3_hillOn_28 ci_m1 ?_
    obtain ⟨z0_, E, G⟩ := qup_g E G
    exact qt_ireturn rfl (Nat.le_of_ble_eq_true rfl) dX3_hillOn_29 E G
  · refine qt_aload_n 0 dX3_hillOn_10 rfl rfl ?_
    refine qt_getS (a0 + 1) (wl_Land_0 ha0 h) fe_RX3_9 rfl dX3_hillOn_11 ?_
    refine qt_iload_n 2 dX3_hillOn_14 rfl rfl ?_
    refine qt_iald (wl_Land_1 ha0 h) dX3_hillOn_15 E (fun E => ?_)
    refine qt_iload_n 1 dX3_hillOn_16 rfl rfl ?_
    refine qt_icmp_ne 22 dX3_hillOn_17 (by decide) E (fun E => ?_) (fun E => ?_)
    · refine qt_iinc 2 (fun v22 => [(2, .int v22), (0, .ref (g.1 + a0)), (1, .int x1)]) dX3_hillOn_22 rfl ci_1 (Nat.le_of_ble_eq_true rfl) (fun _ => rfl) E (fun v22 E => ?_)
      refine qt_goto 2 dX3_hillOn_25 (by decide) ?_
      cases E
      exact qt_sub _ [1, 2, 0] rfl (G)
    · refine qt_iload_n 2 dX3_hillOn_20 rfl rfl ?_
      obtain ⟨z0_, E, G⟩ := qup_g E G
      exact qt_ireturn rfl (Nat.le_of_ble_eq_true rfl) dX3_hillOn_21 E G
noncomputable def f_X3_hillOn_b2_loop (a0 : Nat) (x1 : Int32) (x2 : Int32) (h : qa_M) : Option (Int32 × qa_M) := qlp (fun sz : Int32 × Int32 × qa_M => f_X3_hillOn_b2 a0 sz.1 sz.2.1 sz.2.2) (x1, x2, h)
theorem s_X3_hillOn_b2_loop {l : Launch} {g : qa_G} {d : Nat} {rz : Option Value} {hz : qa_M} (a0 : Nat) (ha0 : qLand a0) (x1 : Int32) (x2 : Int32) (h : qa_M) {z : (Int32 × qa_M)} (E : f_X3_hillOn_b2_loop a0 x1 x2 h = some z) (G : (qg_i rz hz) z) : qt_At l g (yX3_hillOn, cX3_hillOn, 3, (some .int)) d 0 0 2 [(0, .ref (g.1 + a0)), (1, .int x1), (2, .int x2)] [] h rz hz :=
  qlp_ind (fun sz : Int32 × Int32 × qa_M => qt_At l g (yX3_hillOn, cX3_hillOn, 3, (some .int)) d 0 0 2 [(0, .ref (g.1 + a0)), (1, .int sz.1), (2, .int sz.2.1)] [] sz.2.2 rz hz) (fun sz E => s_X3_hillOn_b2 a0 ha0 sz.1 sz.2.1 sz.2.2 E G) (fun sz sz2 E ih => s_X3_hillOn_b2 a0 ha0 sz.1 sz.2.1 sz.2.2 E ih) (x1, x2, h) E
noncomputable def m_X3_hillOn (a0 : Nat) (x1 : Int32) (h : qa_M) : Option (Int32 × qa_M) :=
  qbd (0 : Int32) (fun v1 : Int32 =>
  f_X3_hillOn_b2_loop a0 x1 v1 h)
set_option maxRecDepth 20000 in
theorem c_X3_hillOn {l : Launch} {g : qa_G} {d : Nat} (a0 : Nat) (x1 : Int32) (h : qa_M) (ha0 : qLand a0) {c : Int32} {h1 : qa_M} (E : m_X3_hillOn a0 x1 h = some (c, h1)) : qt_Met l g (yX3_hillOn, cX3_hillOn, 3, (some .int)) d 0 [.ref (g.1 + a0), .int x1] h (some (.int c)) h1 := by
  refine qt_Met.of (plainFor_of_name (by decide)) (Nat.le_of_ble_eq_true rfl) ?_
  have G : qg_i (some (.int c)) h1 ((c, h1)) := ⟨rfl, rfl⟩
  unfold m_X3_hillOn at E
  refine qt_iconst dX3_hillOn_0 ci_0 ?_
  refine qt_istore_n (fun v1 => [(2, .int v1), (0, .ref (g.1 + a0)), (1, .int x1)]) dX3_hillOn_1 rfl (Nat.le_of_ble_eq_true rfl) (fun _ => rfl) E (fun v1 E => ?_)
  exact qt_sub _ [1, 2, 0] rfl ((s_X3_hillOn_b2_loop a0 ha0 x1 v1 h E G))
noncomputable def m_X4_readHill (h : qa_M) : Option (Int32 × qa_M) :=
  qbd (h.1 1 4) (fun v7 : Int32 =>
  qbn (m_X4_readSquare h) (fun (c9 : Int32) (h9 : qa_M) =>
  if c9 = 0 then (
   some ((0 : Int32), h9))
  else (
   qbn (m_X3_hillOn 14 (((6 : Int32) * (h9.1 20 3)) + (h9.1 20 2)) h9) (fun (c33 : Int32) (h33 : qa_M) =>
   if c33 = (-1 : Int32) then (
    qbn (m_X9_takeNumber (1 : Int32) (9 : Int32) h33) (fun (c57 : Int32) (h57 : qa_M) =>
    if c57 = 0 then (
     some ((0 : Int32), h57))
    else (
     qck (h57.1 14 2) 8 (
     qbd (qw_I h57 15 (h57.1 14 2).toNatClampNeg (((6 : Int32) * (h57.1 20 3)) + (h57.1 20 2))) (fun h91 : qa_M =>
     qck (h91.1 14 2) 8 (
     qbd (qw_I h91 16 (h91.1 14 2).toNatClampNeg (h91.1 1 6)) (fun h113 : qa_M =>
     qbd (qw_I h113 14 2 ((h113.1 14 2) + (1 : Int32))) (fun h124 : qa_M =>
     some ((1 : Int32), h124)))))))))
   else (
    qbn (m_X9_failAt v7 (5 : Int32) h33) (fun (c46 : Int32) (h46 : qa_M) =>
    qpr (c46 = 0 ∨ c46 = 1) (
    some (c46, h46))))))))
set_option maxRecDepth 20000 in
theorem c_X4_readHill {l : Launch} {g : qa_G} {d : Nat} (h : qa_M) {c : Int32} {h1 : qa_M} (E : m_X4_readHill h = some (c, h1)) : qt_Met l g (yX4_readHill, cX4_readHill, 2, (some .boolean)) (d + 3) 0 [.ref (g.1 + 20)] h (some (.int c)) h1 := by
  refine qt_Met.of (plainFor_of_name (by decide)) (Nat.le_of_ble_eq_true rfl) ?_
  have G : qg_i (some (.int c)) h1 ((c, h1)) := ⟨rfl, rfl⟩
  unfold m_X4_readHill at E
  refine qt_aload_n 0 dX4_readHill_0 rfl rfl ?_
  refine qt_getS 1 (wl_20 h) fe_RX4_9 rfl dX4_readHill_1 ?_
  refine qt_getI (wl_1 h) fe_RX4_127 rfl dX4_readHill_4 ?_
  refine qt_istore_n (fun v7 => [(1, .int v7), (0, .ref (g.1 + 20))]) dX4_readHill_7 rfl (Nat.le_of_ble_eq_true rfl) (fun _ => rfl) E (fun v7 E => ?_)
  refine qt_aload_n 1 dX4_readHill_8 rfl rfl ?_
  obtain ⟨c9, h9, e9, E⟩ := qbn_el E
  refine qt_callVi (b2 := 0) [] (c_X4_readSquare h e9) cv_RX4_105 (wl_20 h) rfl rfl rfl (Nat.le_of_ble_eq_true rfl) (Nat.le_of_ble_eq_true rfl) dX4_readHill_9 ?_
  refine qt_if_ne 17 dX4_readHill_12 (by decide) E (fun E => ?_) (fun E => ?_)
  · refine qt_aload_n 1 dX4_readHill_17 rfl rfl ?_
    refine qt_getS 14 (wl_20 h9) fe_RX4_15 rfl dX4_readHill_18 ?_
    refine qt_bipush dX4_readHill_21 cb_6 ?_
    refine qt_aload_n 1 dX4_readHill_23 rfl rfl ?_
    refine qt_getI (wl_20 h9) fe_RX4_102 rfl dX4_readHill_24 ?_
    refine qt_imul dX4_readHill_27 ?_
    refine qt_aload_n 1 dX4_readHill_28 rfl rfl ?_
    refine qt_getI (wl_20 h9) fe_RX4_99 rfl dX4_readHill_29 ?_
    refine qt_iadd dX4_readHill_32 ?_
    obtain ⟨c33, h33, e33, E⟩ := qbn_el E
    refine qt_callVi (b2 := 0) [.int (((6 : Int32) * (h9.1 20 3)) + (h9.1 20 2))] (c_X3_hillOn 14 (((6 : Int32) * (h9.1 20 3)) + (h9.1 20 2)) h9 (show qLand 14 by unfold qLand; decide) e33) cv_RX4_130 (wl_14 h9) rfl rfl rfl (Nat.le_of_ble_eq_true rfl) (Nat.le_of_ble_eq_true rfl) dX4_readHill_33 ?_
    refine qt_iconst dX4_readHill_36 ci_m1 ?_
    refine qt_icmp_eq 50 dX4_readHill_37 (by decide) E (fun E => ?_) (fun E => ?_)
    · refine qt_aload_n 1 dX4_readHill_50 rfl rfl ?_
      refine qt_getS 1 (wl_20 h33) fe_RX4_9 rfl dX4_readHill_51 ?_
      refine qt_iconst dX4_readHill_54 ci_1 ?_
      refine qt_bipush dX4_readHill_55 cb_9 ?_
      obtain ⟨c57, h57, e57, E⟩ := qbn_el E
      refine qt_callVi (b2 := 0) [.int (1 : Int32), .int (9 : Int32)] (c_X9_takeNumber (1 : Int32) (9 : Int32) h33 e57) cv_RX4_86 (wl_1 h33) rfl rfl rfl (Nat.le_of_ble_eq_true rfl) (Nat.le_of_ble_eq_true rfl) dX4_readHill_57 ?_
      refine qt_if_ne 65 dX4_readHill_60 (by decide) E (fun E => ?_) (fun E => ?_)
      · refine qt_aload_n 1 dX4_readHill_65 rfl rfl ?_
        refine qt_getS 14 (wl_20 h57) fe_RX4_15 rfl dX4_readHill_66 ?_
        refine qt_getS 15 (wl_14 h57) fe_RX4_137 rfl dX4_readHill_69 ?_
        refine qt_aload_n 1 dX4_readHill_72 rfl rfl ?_
        refine qt_getS 14 (wl_20 h57) fe_RX4_15 rfl dX4_readHill_73 ?_
        refine qt_getI (wl_14 h57) fe_RX4_77 rfl dX4_readHill_76 ?_
        refine qt_bipush dX4_readHill_79 cb_6 ?_
        refine qt_aload_n 1 dX4_readHill_81 rfl rfl ?_
        refine qt_getI (wl_20 h57) fe_RX4_102 rfl dX4_readHill_82 ?_
        refine qt_imul dX4_readHill_85 ?_
        refine qt_aload_n 1 dX4_readHill_86 rfl rfl ?_
        refine qt_getI (wl_20 h57) fe_RX4_99 rfl dX4_readHill_87 ?_
        refine qt_iadd dX4_readHill_90 ?_
        refine qt_iast (wl_15 h57) dX4_readHill_91 E (fun h91 E => ?_)
        refine qt_aload_n 1 dX4_readHill_92 rfl rfl ?_
        refine qt_getS 14 (wl_20 h91) fe_RX4_15 rfl dX4_readHill_93 ?_
        refine qt_getS 16 (wl_14 h91) fe_RX4_141 rfl dX4_readHill_96 ?_
        refine qt_aload_n 1 dX4_readHill_99 rfl rfl ?_
        refine qt_getS 14 (wl_20 h91) fe_RX4_15 rfl dX4_readHill_100 ?_
        refine qt_getI (wl_14 h91) fe_RX4_77 rfl dX4_readHill_103 ?_
        refine qt_aload_n 1 dX4_readHill_106 rfl rfl ?_
        refine qt_getS 1 (wl_20 h91) fe_RX4_9 rfl dX4_readHill_107 ?_
        refine qt_getI (wl_1 h91) fe_RX4_90 rfl dX4_readHill_110 ?_
        refine qt_iast (wl_16 h91) dX4_readHill_113 E (fun h113 E => ?_)
        refine qt_aload_n 1 dX4_readHill_114 rfl rfl ?_
        refine qt_getS 14 (wl_20 h113) fe_RX4_15 rfl dX4_readHill_115 ?_
        refine qt_dup dX4_readHill_118 rfl ?_
        refine qt_getI (wl_14 h113) fe_RX4_77 rfl dX4_readHill_119 ?_
        refine qt_iconst dX4_readHill_122 ci_1 ?_
        refine qt_iadd dX4_readHill_123 ?_
        refine qt_putI (wl_14 h113) fd_RX4_77 rfl rfl rfl dX4_readHill_124 E (fun h124 E => ?_)
        refine qt_iconst dX4_readHill_127 ci_1 ?_
        exact qt_zreturn rfl (Or.inr rfl) (Nat.le_of_ble_eq_true rfl) dX4_readHill_128 E G
      · refine qt_iconst dX4_readHill_63 ci_0 ?_
        exact qt_zreturn rfl (Or.inl rfl) (Nat.le_of_ble_eq_true rfl) dX4_readHill_64 E G
    · refine qt_aload_n 1 dX4_readHill_40 rfl rfl ?_
      refine qt_getS 1 (wl_20 h33) fe_RX4_9 rfl dX4_readHill_41 ?_
      refine qt_iload_n 0 dX4_readHill_44 rfl rfl ?_
      refine qt_iconst dX4_readHill_45 ci_5 ?_
      obtain ⟨c46, h46, e46, E⟩ := qbn_el E
      refine qt_callVi (b2 := 0) [.int v7, .int (5 : Int32)] (c_X9_failAt v7 (5 : Int32) h33 e46) cv_RX4_134 (wl_1 h33) rfl rfl rfl (Nat.le_of_ble_eq_true rfl) (Nat.le_of_ble_eq_true rfl) dX4_readHill_46 ?_
      obtain ⟨z49, E⟩ := qpr_el E
      exact qt_zreturn rfl z49 (Nat.le_of_ble_eq_true rfl) dX4_readHill_49 E G
  · refine qt_iconst dX4_readHill_15 ci_0 ?_
    exact qt_zreturn rfl (Or.inl rfl) (Nat.le_of_ble_eq_true rfl) dX4_readHill_16 E G
noncomputable def f_X4_readRoad_b49 (h : qa_M) : Option (Int32 × qa_M) :=
  qbn (m_X2_box (h.1 20 2) (h.1 20 3) (h.1 20 4) (h.1 20 5) h) (fun (c79 : Int64) (h79 : qa_M) =>
  qck (h.1 14 3) 6 (
  qbd (qw_J h79 18 (h.1 14 3).toNatClampNeg c79) (fun h82 : qa_M =>
  qbd (qw_I h82 14 3 ((h82.1 14 3) + (1 : Int32))) (fun h93 : qa_M =>
  some ((1 : Int32), h93)))))
set_option maxRecDepth 20000 in
theorem s_X4_readRoad_b49 {l : Launch} {g : qa_G} {d : Nat} {rz : Option Value} {hz : qa_M} (h : qa_M) {z : (Int32 × qa_M)} (E : f_X4_readRoad_b49 h = some z) (G : (qg_i rz hz) z) : qt_At l g (yX4_readRoad, cX4_readRoad, 2, (some .boolean)) (d + 4) 0 0 49 [(0, .ref (g.1 + 20))] [] h rz hz := by
  unfold f_X4_readRoad_b49 at E
  refine qt_aload_n 0 dX4_readRoad_49 rfl rfl ?_
  refine qt_getS 14 (wl_20 h) fe_RX4_15 rfl dX4_readRoad_50 ?_
  refine qt_getS 18 (wl_14 h) fe_RX4_144 rfl dX4_readRoad_53 ?_
  refine qt_aload_n 0 dX4_readRoad_56 rfl rfl ?_
  refine qt_getS 14 (wl_20 h) fe_RX4_15 rfl dX4_readRoad_57 ?_
  refine qt_getI (wl_14 h) fe_RX4_80 rfl dX4_readRoad_60 ?_
  refine qt_aload_n 0 dX4_readRoad_63 rfl rfl ?_
  refine qt_getI (wl_20 h) fe_RX4_99 rfl dX4_readRoad_64 ?_
  refine qt_aload_n 0 dX4_readRoad_67 rfl rfl ?_
  refine qt_getI (wl_20 h) fe_RX4_102 rfl dX4_readRoad_68 ?_
  refine qt_aload_n 0 dX4_readRoad_71 rfl rfl ?_
  refine qt_getI (wl_20 h) fe_RX4_108 rfl dX4_readRoad_72 ?_
  refine qt_aload_n 0 dX4_readRoad_75 rfl rfl ?_
  refine qt_getI (wl_20 h) fe_RX4_111 rfl dX4_readRoad_76 ?_
  obtain ⟨c79, h79, e79, E⟩ := qbn_el E
  refine qt_callSl (b2 := 0) [.int (h.1 20 2), .int (h.1 20 3), .int (h.1 20 4), .int (h.1 20 5)] (c_X2_box (h.1 20 2) (h.1 20 3) (h.1 20 4) (h.1 20 5) h e79) cv_RX4_121 rfl (Nat.le_of_ble_eq_true rfl) (Nat.le_of_ble_eq_true rfl) dX4_readRoad_79 ?_
  refine qt_last (wl_18 h79) dX4_readRoad_82 E (fun h82 E => ?_)
  refine qt_aload_n 0 dX4_readRoad_83 rfl rfl ?_
  refine qt_getS 14 (wl_20 h82) fe_RX4_15 rfl dX4_readRoad_84 ?_
  refine qt_dup dX4_readRoad_87 rfl ?_
  refine qt_getI (wl_14 h82) fe_RX4_80 rfl dX4_readRoad_88 ?_
  refine qt_iconst dX4_readRoad_91 ci_1 ?_
  refine qt_iadd dX4_readRoad_92 ?_
  refine qt_putI (wl_14 h82) fd_RX4_80 rfl rfl rfl dX4_readRoad_93 E (fun h93 E => ?_)
  refine qt_iconst dX4_readRoad_96 ci_1 ?_
  exact qt_zreturn rfl (Or.inr rfl) (Nat.le_of_ble_eq_true rfl) dX4_readRoad_97 E G
noncomputable def m_X4_readRoad (h : qa_M) : Option (Int32 × qa_M) :=
  qbd (h.1 1 4) (fun v7 : Int32 =>
  qbn (m_X4_readBox h) (fun (c9 : Int32) (h9 : qa_M) =>
  if c9 = 0 then (
   some ((0 : Int32), h9))
  else (
   if (h9.1 20 2) = (h9.1 20 4) then (
    f_X4_readRoad_b49 h9)
   else (
    if (h9.1 20 3) = (h9.1 20 5) then (
     f_X4_readRoad_b49 h9)
    else (
     qbn (m_X9_failAt v7 (5 : Int32) h9) (fun (c45 : Int32) (h45 : qa_M) =>
     qpr (c45 = 0 ∨ c45 = 1) (
     some (c45, h45))))))))
set_option maxRecDepth 20000 in
theorem c_X4_readRoad {l : Launch} {g : qa_G} {d : Nat} (h : qa_M) {c : Int32} {h1 : qa_M} (E : m_X4_readRoad h = some (c, h1)) : qt_Met l g (yX4_readRoad, cX4_readRoad, 2, (some .boolean)) (d + 4) 0 [.ref (g.1 + 20)] h (some (.int c)) h1 := by
  refine qt_Met.of (plainFor_of_name (by decide)) (Nat.le_of_ble_eq_true rfl) ?_
  have G : qg_i (some (.int c)) h1 ((c, h1)) := ⟨rfl, rfl⟩
  unfold m_X4_readRoad at E
  refine qt_aload_n 0 dX4_readRoad_0 rfl rfl ?_
  refine qt_getS 1 (wl_20 h) fe_RX4_9 rfl dX4_readRoad_1 ?_
  refine qt_getI (wl_1 h) fe_RX4_127 rfl dX4_readRoad_4 ?_
  refine qt_istore_n (fun v7 => [(1, .int v7), (0, .ref (g.1 + 20))]) dX4_readRoad_7 rfl (Nat.le_of_ble_eq_true rfl) (fun _ => rfl) E (fun v7 E => ?_)
  refine qt_aload_n 1 dX4_readRoad_8 rfl rfl ?_
  obtain ⟨c9, h9, e9, E⟩ := qbn_el E
  refine qt_callVi (b2 := 0) [] (c_X4_readBox h e9) cv_RX4_114 (wl_20 h) rfl rfl rfl (Nat.le_of_ble_eq_true rfl) (Nat.le_of_ble_eq_true rfl) dX4_readRoad_9 ?_
  refine qt_if_ne 17 dX4_readRoad_12 (by decide) E (fun E => ?_) (fun E => ?_)
  · refine qt_aload_n 1 dX4_readRoad_17 rfl rfl ?_
    refine qt_getI (wl_20 h9) fe_RX4_99 rfl dX4_readRoad_18 ?_
    refine qt_aload_n 1 dX4_readRoad_21 rfl rfl ?_
    refine qt_getI (wl_20 h9) fe_RX4_108 rfl dX4_readRoad_22 ?_
    refine qt_icmp_eq 49 dX4_readRoad_25 (by decide) E (fun E => ?_) (fun E => ?_)
    · exact qt_sub _ [1] rfl ((s_X4_readRoad_b49 h9 E G))
    · refine qt_aload_n 1 dX4_readRoad_28 rfl rfl ?_
      refine qt_getI (wl_20 h9) fe_RX4_102 rfl dX4_readRoad_29 ?_
      refine qt_aload_n 1 dX4_readRoad_32 rfl rfl ?_
      refine qt_getI (wl_20 h9) fe_RX4_111 rfl dX4_readRoad_33 ?_
      refine qt_icmp_eq 49 dX4_readRoad_36 (by decide) E (fun E => ?_) (fun E => ?_)
      · exact qt_sub _ [1] rfl ((s_X4_readRoad_b49 h9 E G))
      · refine qt_aload_n 1 dX4_readRoad_39 rfl rfl ?_
        refine qt_getS 1 (wl_20 h9) fe_RX4_9 rfl dX4_readRoad_40 ?_
        refine qt_iload_n 0 dX4_readRoad_43 rfl rfl ?_
        refine qt_iconst dX4_readRoad_44 ci_5 ?_
        obtain ⟨c45, h45, e45, E⟩ := qbn_el E
        refine qt_callVi (b2 := 0) [.int v7, .int (5 : Int32)] (c_X9_failAt v7 (5 : Int32) h9 e45) cv_RX4_134 (wl_1 h9) rfl rfl rfl (Nat.le_of_ble_eq_true rfl) (Nat.le_of_ble_eq_true rfl) dX4_readRoad_45 ?_
        obtain ⟨z48, E⟩ := qpr_el E
        exact qt_zreturn rfl z48 (Nat.le_of_ble_eq_true rfl) dX4_readRoad_48 E G
  · refine qt_iconst dX4_readRoad_15 ci_0 ?_
    exact qt_zreturn rfl (Or.inl rfl) (Nat.le_of_ble_eq_true rfl) dX4_readRoad_16 E G
noncomputable def m_X4_readSort (h : qa_M) : Option (Int32 × qa_M) :=
  qbd (h.1 1 4) (fun v7 : Int32 =>
  qbn (m_X9_takeNumber (0 : Int32) (4 : Int32) h) (fun (c14 : Int32) (h14 : qa_M) =>
  if c14 = 0 then (
   some ((0 : Int32), h14))
  else (
   if ((h14.1 14 5) + (h14.1 1 6)) ≤ (4 : Int32) then (
    qck (h14.1 14 4) 4 (
    qbd (qw_I h14 19 (h14.1 14 4).toNatClampNeg (h14.1 1 6)) (fun h72 : qa_M =>
    qbd (qw_I h72 14 4 ((h72.1 14 4) + (1 : Int32))) (fun h83 : qa_M =>
    qbd (qw_I h83 14 5 ((h83.1 14 5) + (h83.1 1 6))) (fun h102 : qa_M =>
    some ((1 : Int32), h102))))))
   else (
    qbn (m_X9_failAt v7 (5 : Int32) h14) (fun (c47 : Int32) (h47 : qa_M) =>
    qpr (c47 = 0 ∨ c47 = 1) (
    some (c47, h47)))))))
set_option maxRecDepth 20000 in
theorem c_X4_readSort {l : Launch} {g : qa_G} {d : Nat} (h : qa_M) {c : Int32} {h1 : qa_M} (E : m_X4_readSort h = some (c, h1)) : qt_Met l g (yX4_readSort, cX4_readSort, 2, (some .boolean)) (d + 2) 0 [.ref (g.1 + 20)] h (some (.int c)) h1 := by
  refine qt_Met.of (plainFor_of_name (by decide)) (Nat.le_of_ble_eq_true rfl) ?_
  have G : qg_i (some (.int c)) h1 ((c, h1)) := ⟨rfl, rfl⟩
  unfold m_X4_readSort at E
  refine qt_aload_n 0 dX4_readSort_0 rfl rfl ?_
  refine qt_getS 1 (wl_20 h) fe_RX4_9 rfl dX4_readSort_1 ?_
  refine qt_getI (wl_1 h) fe_RX4_127 rfl dX4_readSort_4 ?_
  refine qt_istore_n (fun v7 => [(1, .int v7), (0, .ref (g.1 + 20))]) dX4_readSort_7 rfl (Nat.le_of_ble_eq_true rfl) (fun _ => rfl) E (fun v7 E => ?_)
  refine qt_aload_n 1 dX4_readSort_8 rfl rfl ?_
  refine qt_getS 1 (wl_20 h) fe_RX4_9 rfl dX4_readSort_9 ?_
  refine qt_iconst dX4_readSort_12 ci_0 ?_
  refine qt_iconst dX4_readSort_13 ci_4 ?_
  obtain ⟨c14, h14, e14, E⟩ := qbn_el E
  refine qt_callVi (b2 := 0) [.int (0 : Int32), .int (4 : Int32)] (c_X9_takeNumber (0 : Int32) (4 : Int32) h e14) cv_RX4_86 (wl_1 h) rfl rfl rfl (Nat.le_of_ble_eq_true rfl) (Nat.le_of_ble_eq_true rfl) dX4_readSort_14 ?_
  refine qt_if_ne 22 dX4_readSort_17 (by decide) E (fun E => ?_) (fun E => ?_)
  · refine qt_aload_n 1 dX4_readSort_22 rfl rfl ?_
    refine qt_getS 14 (wl_20 h14) fe_RX4_15 rfl dX4_readSort_23 ?_
    refine qt_getI (wl_14 h14) fe_RX4_148 rfl dX4_readSort_26 ?_
    refine qt_aload_n 1 dX4_readSort_29 rfl rfl ?_
    refine qt_getS 1 (wl_20 h14) fe_RX4_9 rfl dX4_readSort_30 ?_
    refine qt_getI (wl_1 h14) fe_RX4_90 rfl dX4_readSort_33 ?_
    refine qt_iadd dX4_readSort_36 ?_
    refine qt_iconst dX4_readSort_37 ci_4 ?_
    refine qt_icmp_le 51 dX4_readSort_38 (by decide) E (fun E => ?_) (fun E => ?_)
    · refine qt_aload_n 1 dX4_readSort_51 rfl rfl ?_
      refine qt_getS 14 (wl_20 h14) fe_RX4_15 rfl dX4_readSort_52 ?_
      refine qt_getS 19 (wl_14 h14) fe_RX4_151 rfl dX4_readSort_55 ?_
      refine qt_aload_n 1 dX4_readSort_58 rfl rfl ?_
      refine qt_getS 14 (wl_20 h14) fe_RX4_15 rfl dX4_readSort_59 ?_
      refine qt_getI (wl_14 h14) fe_RX4_83 rfl dX4_readSort_62 ?_
      refine qt_aload_n 1 dX4_readSort_65 rfl rfl ?_
      refine qt_getS 1 (wl_20 h14) fe_RX4_9 rfl dX4_readSort_66 ?_
      refine qt_getI (wl_1 h14) fe_RX4_90 rfl dX4_readSort_69 ?_
      refine qt_iast (wl_19 h14) dX4_readSort_72 E (fun h72 E => ?_)
      refine qt_aload_n 1 dX4_readSort_73 rfl rfl ?_
      refine qt_getS 14 (wl_20 h72) fe_RX4_15 rfl dX4_readSort_74 ?_
      refine qt_dup dX4_readSort_77 rfl ?_
      refine qt_getI (wl_14 h72) fe_RX4_83 rfl dX4_readSort_78 ?_
      refine qt_iconst dX4_readSort_81 ci_1 ?_
      refine qt_iadd dX4_readSort_82 ?_
      refine qt_putI (wl_14 h72) fd_RX4_83 rfl rfl rfl dX4_readSort_83 E (fun h83 E => ?_)
      refine qt_aload_n 1 dX4_readSort_86 rfl rfl ?_
      refine qt_getS 14 (wl_20 h83) fe_RX4_15 rfl dX4_readSort_87 ?_
      refine qt_dup dX4_readSort_90 rfl ?_
      refine qt_getI (wl_14 h83) fe_RX4_148 rfl dX4_readSort_91 ?_
      refine qt_aload_n 1 dX4_readSort_94 rfl rfl ?_
      refine qt_getS 1 (wl_20 h83) fe_RX4_9 rfl dX4_readSort_95 ?_
      refine qt_getI (wl_1 h83) fe_RX4_90 rfl dX4_readSort_98 ?_
      refine qt_iadd dX4_readSort_101 ?_
      refine qt_putI (wl_14 h83) fd_RX4_148 rfl rfl rfl dX4_readSort_102 E (fun h102 E => ?_)
      refine qt_iconst dX4_readSort_105 ci_1 ?_
      exact qt_zreturn rfl (Or.inr rfl) (Nat.le_of_ble_eq_true rfl) dX4_readSort_106 E G
    · refine qt_aload_n 1 dX4_readSort_41 rfl rfl ?_
      refine qt_getS 1 (wl_20 h14) fe_RX4_9 rfl dX4_readSort_42 ?_
      refine qt_iload_n 0 dX4_readSort_45 rfl rfl ?_
      refine qt_iconst dX4_readSort_46 ci_5 ?_
      obtain ⟨c47, h47, e47, E⟩ := qbn_el E
      refine qt_callVi (b2 := 0) [.int v7, .int (5 : Int32)] (c_X9_failAt v7 (5 : Int32) h14 e47) cv_RX4_134 (wl_1 h14) rfl rfl rfl (Nat.le_of_ble_eq_true rfl) (Nat.le_of_ble_eq_true rfl) dX4_readSort_47 ?_
      obtain ⟨z50, E⟩ := qpr_el E
      exact qt_zreturn rfl z50 (Nat.le_of_ble_eq_true rfl) dX4_readSort_50 E G
  · refine qt_iconst dX4_readSort_20 ci_0 ?_
    exact qt_zreturn rfl (Or.inl rfl) (Nat.le_of_ble_eq_true rfl) dX4_readSort_21 E G
noncomputable def f_X4_readClause_b68 (h : qa_M) : Option (Int32 × qa_M) :=
  qbn (m_X9_fail (4 : Int32) h) (fun (c73 : Int32) (h73 : qa_M) =>
  qpr (c73 = 0 ∨ c73 = 1) (
  some (c73, h73)))
set_option maxRecDepth 20000 in
theorem s_X4_readClause_b68 {l : Launch} {g : qa_G} {d : Nat} {rz : Option Value} {hz : qa_M} (h : qa_M) {z : (Int32 × qa_M)} (E : f_X4_readClause_b68 h = some z) (G : (qg_i rz hz) z) : qt_At l g (yX4_readClause, cX4_readClause, 4, (some .boolean)) (d + 5) 0 0 68 [(0, .ref (g.1 + 20))] [] h rz hz := by
  unfold f_X4_readClause_b68 at E
  refine qt_aload_n 0 dX4_readClause_68 rfl rfl ?_
  refine qt_getS 1 (wl_20 h) fe_RX4_9 rfl dX4_readClause_69 ?_
  refine qt_iconst dX4_readClause_72 ci_4 ?_
  obtain ⟨c73, h73, e73, E⟩ := qbn_el E
  refine qt_callVi (b2 := 0) [.int (4 : Int32)] (c_X9_fail (4 : Int32) h e73) cv_RX4_46 (wl_1 h) rfl rfl rfl (Nat.le_of_ble_eq_true rfl) (Nat.le_of_ble_eq_true rfl) dX4_readClause_73 ?_
  obtain ⟨z76, E⟩ := qpr_el E
  exact qt_zreturn rfl z76 (Nat.le_of_ble_eq_true rfl) dX4_readClause_76 E G
noncomputable def f_X4_readClause_b49 (x1 : Int32) (x2 : Int32) (s0 : Int32) (h : qa_M) : Option (Int32 × qa_M) :=
  qbd s0 (fun v49 : Int32 =>
  if (24 : Int32) ≤ x1 then (
   f_X4_readClause_b68 h)
  else (
   if v49 = 0 then (
    qbn (m_X4_isFull x2 h) (fun (c62 : Int32) (h62 : qa_M) =>
    if c62 = 0 then (
     qbv (m_X9_scan h62) (fun h81 : qa_M =>
     if x2 = (0 : Int32) then (
      qbn (m_X4_readWide h81) (fun (c117 : Int32) (h117 : qa_M) =>
      qpr (c117 = 0 ∨ c117 = 1) (
      some (c117, h117))))
     else (
     if x2 = (1 : Int32) then (
      qbn (m_X4_readWood h81) (fun (c122 : Int32) (h122 : qa_M) =>
      qpr (c122 = 0 ∨ c122 = 1) (
      some (c122, h122))))
     else (
     if x2 = (2 : Int32) then (
      qbn (m_X4_readHill h81) (fun (c127 : Int32) (h127 : qa_M) =>
      qpr (c127 = 0 ∨ c127 = 1) (
      some (c127, h127))))
     else (
     if x2 = (3 : Int32) then (
      qbn (m_X4_readRoad h81) (fun (c132 : Int32) (h132 : qa_M) =>
      qpr (c132 = 0 ∨ c132 = 1) (
      some (c132, h132))))
     else (
     qbn (m_X4_readSort h81) (fun (c137 : Int32) (h137 : qa_M) =>
     qpr (c137 = 0 ∨ c137 = 1) (
     some (c137, h137)))))))))
    else (
     f_X4_readClause_b68 h62)))
   else (
    f_X4_readClause_b68 h)))
set_option maxRecDepth 20000 in
theorem s_X4_readClause_b49 {l : Launch} {g : qa_G} {d : Nat} {rz : Option Value} {hz : qa_M} (x1 : Int32) (x2 : Int32) (s0 : Int32) (h : qa_M) {z : (Int32 × qa_M)} (E : f_X4_readClause_b49 x1 x2 s0 h = some z) (G : (qg_i rz hz) z) : qt_At l g (yX4_readClause, cX4_readClause, 4, (some .boolean)) (d + 5) 0 0 49 [(0, .ref (g.1 + 20)), (1, .int x1), (2, .int x2)] [.int s0] h rz hz := by
  unfold f_X4_readClause_b49 at E
  refine qt_istore_n (fun v49 => [(3, .int v49), (0, .ref (g.1 + 20)), (1, .int x1), (2, .int x2)]) dX4_readClause_49 rfl (Nat.le_of_ble_eq_true rfl) (fun _ => rfl) E (fun v49 E => ?_)
  refine qt_iload_n 2 dX4_readClause_50 rfl rfl ?_
  refine qt_bipush dX4_readClause_51 cb_24 ?_
  refine qt_icmp_ge 68 dX4_readClause_53 (by decide) E (fun E => ?_) (fun E => ?_)
  · exact qt_sub _ [1] rfl ((s_X4_readClause_b68 h E G))
  · refine qt_iload_n 0 dX4_readClause_56 rfl rfl ?_
    refine qt_if_ne 68 dX4_readClause_57 (by decide) E (fun E => ?_) (fun E => ?_)
    · exact qt_sub _ [1] rfl ((s_X4_readClause_b68 h E G))
    · refine qt_aload_n 1 dX4_readClause_60 rfl rfl ?_
      refine qt_iload_n 3 dX4_readClause_61 rfl rfl ?_
      obtain ⟨c62, h62, e62, E⟩ := qbn_el E
      refine qt_callVi (b2 := 0) [.int x2] (c_X4_isFull x2 h e62) cv_RX4_58 (wl_20 h) rfl rfl rfl (Nat.le_of_ble_eq_true rfl) (Nat.le_of_ble_eq_true rfl) dX4_readClause_62 ?_
      refine qt_if_eq 77 dX4_readClause_65 (by decide) E (fun E => ?_) (fun E => ?_)
      · refine qt_aload_n 1 dX4_readClause_77 rfl rfl ?_
        refine qt_getS 1 (wl_20 h62) fe_RX4_9 rfl dX4_readClause_78 ?_
        obtain ⟨h81, e81, E⟩ := qbv_el E
        refine qt_callVv (b2 := 0) [] (c_X9_scan h62 e81) cv_RX4_49 (wl_1 h62) rfl rfl rfl (Nat.le_of_ble_eq_true rfl) (Nat.le_of_ble_eq_true rfl) dX4_readClause_81 ?_
        refine qt_iload_n 3 dX4_readClause_84 rfl rfl ?_
        by_cases c85_0 : x2 = (0 : Int32)
        · replace E := qif_t c85_0 E
          refine qt_tabIn (off := 31) 116 dX4_readClause_85 c85_0 (by decide) (by decide) rfl (by decide) ?_
          refine qt_aload_n 1 dX4_readClause_116 rfl rfl ?_
          obtain ⟨c117, h117, e117, E⟩ := qbn_el E
          refine qt_callVi (b2 := 0) [] (c_X4_readWide h81 e117) cv_RX4_61 (wl_20 h81) rfl rfl rfl (Nat.le_of_ble_eq_true rfl) (Nat.le_of_ble_eq_true rfl) dX4_readClause_117 ?_
          obtain ⟨z120, E⟩ := qpr_el E
          exact qt_zreturn rfl z120 (Nat.le_of_ble_eq_true rfl) dX4_readClause_120 E G
        replace E := qif_f c85_0 E
        by_cases c85_1 : x2 = (1 : Int32)
        · replace E := qif_t c85_1 E
          refine qt_tabIn (off := 36) 121 dX4_readClause_85 c85_1 (by decide) (by decide) rfl (by decide) ?_
          refine qt_aload_n 1 dX4_readClause_121 rfl rfl ?_
          obtain ⟨c122, h122, e122, E⟩ := qbn_el E
          refine qt_callVi (b2 := 0) [] (c_X4_readWood h81 e122) cv_RX4_65 (wl_20 h81) rfl rfl rfl (Nat.le_of_ble_eq_true rfl) (Nat.le_of_ble_eq_true rfl) dX4_readClause_122 ?_
          obtain ⟨z125, E⟩ := qpr_el E
          exact qt_zreturn rfl z125 (Nat.le_of_ble_eq_true rfl) dX4_readClause_125 E G
        replace E := qif_f c85_1 E
        by_cases c85_2 : x2 = (2 : Int32)
        · replace E := qif_t c85_2 E
          refine qt_tabIn (off := 41) 126 dX4_readClause_85 c85_2 (by decide) (by decide) rfl (by decide) ?_
          refine qt_aload_n 1 dX4_readClause_126 rfl rfl ?_
          obtain ⟨c127, h127, e127, E⟩ := qbn_el E
          refine qt_callVi (b2 := 0) [] (c_X4_readHill h81 e127) cv_RX4_68 (wl_20 h81) rfl rfl rfl (Nat.le_of_ble_eq_true rfl) (Nat.le_of_ble_eq_true rfl) dX4_readClause_127 ?_
          obtain ⟨z130, E⟩ := qpr_el E
          exact qt_zreturn rfl z130 (Nat.le_of_ble_eq_true rfl) dX4_readClause_130 E G
        replace E := qif_f c85_2 E
        by_cases c85_3 : x2 = (3 : Int32)
        · replace E := qif_t c85_3 E
          refine qt_tabIn (off := 46) 131 dX4_readClause_85 c85_3 (by decide) (by decide) rfl (by decide) ?_
          refine qt_aload_n 1 dX4_readClause_131 rfl rfl ?_
          obtain ⟨c132, h132, e132, E⟩ := qbn_el E
          refine qt_callVi (b2 := 0) [] (c_X4_readRoad h81 e132) cv_RX4_71 (wl_20 h81) rfl rfl rfl (Nat.le_of_ble_eq_true rfl) (Nat.le_of_ble_eq_true rfl) dX4_readClause_132 ?_
          obtain ⟨z135, E⟩ := qpr_el E
          exact qt_zreturn rfl z135 (Nat.le_of_ble_eq_true rfl) dX4_readClause_135 E G
        replace E := qif_f c85_3 E
        have e85_0 : (x2 : Int32).toInt ≠ 0 := fun q => c85_0 (Int32.toInt_inj.mp (q.trans (by decide)))
        have e85_1 : (x2 : Int32).toInt ≠ 1 := fun q => c85_1 (Int32.toInt_inj.mp (q.trans (by decide)))
        have e85_2 : (x2 : Int32).toInt ≠ 2 := fun q => c85_2 (Int32.toInt_inj.mp (q.trans (by decide)))
        have e85_3 : (x2 : Int32).toInt ≠ 3 := fun q => c85_3 (Int32.toInt_inj.mp (q.trans (by decide)))
        refine qt_tabOut 136 dX4_readClause_85 (by omega) (by decide) ?_
        refine qt_aload_n 1 dX4_readClause_136 rfl rfl ?_
        obtain ⟨c137, h137, e137, E⟩ := qbn_el E
        refine qt_callVi (b2 := 0) [] (c_X4_readSort h81 e137) cv_RX4_74 (wl_20 h81) rfl rfl rfl (Nat.le_of_ble_eq_true rfl) (Nat.le_of_ble_eq_true rfl) dX4_readClause_137 ?_
        obtain ⟨z140, E⟩ := qpr_el E
        exact qt_zreturn rfl z140 (Nat.le_of_ble_eq_true rfl) dX4_readClause_140 E G
      · exact qt_sub _ [1] rfl ((s_X4_readClause_b68 h62 E G))
noncomputable def m_X4_readClause (x1 : Int32) (h : qa_M) : Option (Int32 × qa_M) :=
  qbn (m_X9_among 0 h) (fun (c6 : Int32) (h6 : qa_M) =>
  qbd c6 (fun v9 : Int32 =>
  if v9 = (-1 : Int32) then (
   qbn (m_X9_fail (0 : Int32) h6) (fun (c20 : Int32) (h20 : qa_M) =>
   qpr (c20 = 0 ∨ c20 = 1) (
   some (c20, h20))))
  else (
   if x1 = 0 then (
    if v9 = 0 then (
     f_X4_readClause_b49 x1 v9 (0 : Int32) h6)
    else (
     f_X4_readClause_b49 x1 v9 (1 : Int32) h6))
   else (
    if v9 = 0 then (
     f_X4_readClause_b49 x1 v9 (1 : Int32) h6)
    else (
     f_X4_readClause_b49 x1 v9 (0 : Int32) h6)))))
set_option maxRecDepth 20000 in
theorem c_X4_readClause {l : Launch} {g : qa_G} {d : Nat} (x1 : Int32) (h : qa_M) {c : Int32} {h1 : qa_M} (E : m_X4_readClause x1 h = some (c, h1)) : qt_Met l g (yX4_readClause, cX4_readClause, 4, (some .boolean)) (d + 5) 0 [.ref (g.1 + 20), .int x1] h (some (.int c)) h1 := by
  refine qt_Met.of (plainFor_of_name (by decide)) (Nat.le_of_ble_eq_true rfl) ?_
  have G : qg_i (some (.int c)) h1 ((c, h1)) := ⟨rfl, rfl⟩
  unfold m_X4_readClause at E
  refine qt_aload_n 0 dX4_readClause_0 rfl rfl ?_
  refine qt_getS 1 (wl_20 h) fe_RX4_9 rfl dX4_readClause_1 ?_
  refine qt_ldcS sr_RX4_52 dX4_readClause_4 ?_
  obtain ⟨c6, h6, e6, E⟩ := qbn_el E
  refine qt_callVi (b2 := 0) [.ref (g.2.2.2.1 0)] (c_X9_among 0 h (by decide) e6) cv_RX4_54 (wl_1 h) rfl rfl rfl (Nat.le_of_ble_eq_true rfl) (Nat.le_of_ble_eq_true rfl) dX4_readClause_6 ?_
  refine qt_istore_n (fun v9 => [(2, .int v9), (0, .ref (g.1 + 20)), (1, .int x1)]) dX4_readClause_9 rfl (Nat.le_of_ble_eq_true rfl) (fun _ => rfl) E (fun v9 E => ?_)
  refine qt_iload_n 0 dX4_readClause_10 rfl rfl ?_
  refine qt_iconst dX4_readClause_11 ci_m1 ?_
  refine qt_icmp_ne 24 dX4_readClause_12 (by decide) E (fun E => ?_) (fun E => ?_)
  · refine qt_iload_n 2 dX4_readClause_24 rfl rfl ?_
    refine qt_if_ne 40 dX4_readClause_25 (by decide) E (fun E => ?_) (fun E => ?_)
    · refine qt_iload_n 0 dX4_readClause_40 rfl rfl ?_
      refine qt_if_ne 48 dX4_readClause_41 (by decide) E (fun E => ?_) (fun E => ?_)
      · refine qt_iconst dX4_readClause_48 ci_0 ?_
        exact qt_sub _ [1, 2, 0] rfl ((s_X4_readClause_b49 x1 v9 (0 : Int32) h6 E G))
      · refine qt_iconst dX4_readClause_44 ci_1 ?_
        refine qt_goto 49 dX4_readClause_45 (by decide) ?_
        exact qt_sub _ [1, 2, 0] rfl ((s_X4_readClause_b49 x1 v9 (1 : Int32) h6 E G))
    · refine qt_iload_n 0 dX4_readClause_28 rfl rfl ?_
      refine qt_if_eq 36 dX4_readClause_29 (by decide) E (fun E => ?_) (fun E => ?_)
      · refine qt_iconst dX4_readClause_36 ci_0 ?_
        refine qt_goto 49 dX4_readClause_37 (by decide) ?_
        exact qt_sub _ [1, 2, 0] rfl ((s_X4_readClause_b49 x1 v9 (0 : Int32) h6 E G))
      · refine qt_iconst dX4_readClause_32 ci_1 ?_
        refine qt_goto 49 dX4_readClause_33 (by decide) ?_
        exact qt_sub _ [1, 2, 0] rfl ((s_X4_readClause_b49 x1 v9 (1 : Int32) h6 E G))
  · refine qt_aload_n 1 dX4_readClause_15 rfl rfl ?_
    refine qt_getS 1 (wl_20 h6) fe_RX4_9 rfl dX4_readClause_16 ?_
    refine qt_iconst dX4_readClause_19 ci_0 ?_
    obtain ⟨c20, h20, e20, E⟩ := qbn_el E
    refine qt_callVi (b2 := 0) [.int (0 : Int32)] (c_X9_fail (0 : Int32) h6 e20) cv_RX4_46 (wl_1 h6) rfl rfl rfl (Nat.le_of_ble_eq_true rfl) (Nat.le_of_ble_eq_true rfl) dX4_readClause_20 ?_
    obtain ⟨z23, E⟩ := qpr_el E
    exact qt_zreturn rfl z23 (Nat.le_of_ble_eq_true rfl) dX4_readClause_23 E G
noncomputable def m_J9_floorDiv_7cf53 (x0 : Int32) (x1 : Int32) (h : qa_M) : Option (Int32 × qa_M) :=
  qnz (x1 = 0) (
  qbd (x0 / x1) (fun v3 : Int32 =>
  if 0 ≤ (x0 ^^^ x1) then (
   some (v3, h))
  else (
   if (v3 * x1) = x0 then (
    some (v3, h))
   else (
    some ((v3 - (1 : Int32)), h)))))
set_option maxRecDepth 20000 in
theorem c_J9_floorDiv_7cf53 {l : Launch} {g : qa_G} {d : Nat} (x0 : Int32) (x1 : Int32) (h : qa_M) {c : Int32} {h1 : qa_M} (E : m_J9_floorDiv_7cf53 x0 x1 h = some (c, h1)) : qt_Met l g (yJ9_floorDiv_7cf53, cJ9_floorDiv_7cf53, 3, (some .int)) d 0 [.int x0, .int x1] h (some (.int c)) h1 := by
  refine qt_Met.of (by decide +kernel) (Nat.le_of_ble_eq_true rfl) ?_
  have G : qg_i (some (.int c)) h1 ((c, h1)) := ⟨rfl, rfl⟩
  unfold m_J9_floorDiv_7cf53 at E
  refine qt_iload_n 0 dJ9_floorDiv_7cf53_0 rfl rfl ?_
  refine qt_iload_n 1 dJ9_floorDiv_7cf53_1 rfl rfl ?_
  refine qt_idiv dJ9_floorDiv_7cf53_2 E (fun E => ?_)
  refine qt_istore_n (fun v3 => [(2, .int v3), (0, .int x0), (1, .int x1)]) dJ9_floorDiv_7cf53_3 rfl (Nat.le_of_ble_eq_true rfl) (fun _ => rfl) E (fun v3 E => ?_)
  refine qt_iload_n 1 dJ9_floorDiv_7cf53_4 rfl rfl ?_
  refine qt_iload_n 2 dJ9_floorDiv_7cf53_5 rfl rfl ?_
  refine qt_ixor dJ9_floorDiv_7cf53_6 ?_
  refine qt_if_ge 21 dJ9_floorDiv_7cf53_7 (by decide) E (fun E => ?_) (fun E => ?_)
  · refine qt_iload_n 0 dJ9_floorDiv_7cf53_21 rfl rfl ?_
    exact qt_ireturn rfl (Nat.le_of_ble_eq_true rfl) dJ9_floorDiv_7cf53_22 E G
  · refine qt_iload_n 0 dJ9_floorDiv_7cf53_10 rfl rfl ?_
    refine qt_iload_n 2 dJ9_floorDiv_7cf53_11 rfl rfl ?_
    refine qt_imul dJ9_floorDiv_7cf53_12 ?_
    refine qt_iload_n 1 dJ9_floorDiv_7cf53_13 rfl rfl ?_
    refine qt_icmp_eq 21 dJ9_floorDiv_7cf53_14 (by decide) E (fun E => ?_) (fun E => ?_)
    · refine qt_iload_n 0 dJ9_floorDiv_7cf53_21 rfl rfl ?_
      exact qt_ireturn rfl (Nat.le_of_ble_eq_true rfl) dJ9_floorDiv_7cf53_22 E G
    · refine qt_iload_n 0 dJ9_floorDiv_7cf53_17 rfl rfl ?_
      refine qt_iconst dJ9_floorDiv_7cf53_18 ci_1 ?_
      refine qt_isub dJ9_floorDiv_7cf53_19 ?_
      exact qt_ireturn rfl (Nat.le_of_ble_eq_true rfl) dJ9_floorDiv_7cf53_20 E G
noncomputable def f_X3_isClear_b48 (a0 : Nat) (x1 : Int32) (x4 : Int32) (x5 : Int32) (x6 : Int32) (x7 : Int32) (h : qa_M) : Option ((Int32 × Int32 × Int32 × Int32 × Int32 × qa_M) ⊕ (Int32 × qa_M)) :=
  if x6 ≤ x7 then (
   qup (some ((1 : Int32), h)))
  else (
   qbn (m_J9_floorDiv_7cf53 ((((2 : Int32) * x7) * x4) + x6) ((2 : Int32) * x6) h) (fun (c73 : Int32) (h73 : qa_M) =>
   qbd ((x1 - x1 / (6 : Int32) * (6 : Int32)) + c73) (fun v77 : Int32 =>
   qbn (m_J9_floorDiv_7cf53 ((((2 : Int32) * x7) * x5) + x6) ((2 : Int32) * x6) h73) (fun (c97 : Int32) (h97 : qa_M) =>
   qbd ((x1 / (6 : Int32)) + c97) (fun v101 : Int32 =>
   qbn (m_X2_bit v77 v101 h97) (fun (c111 : Int64) (h111 : qa_M) =>
   if ((h97.2.1 a0 7) &&& c111) = (0 : Int64) then (
    qbd (x7 + (1 : Int32)) (fun v122 : Int32 =>
    some (.inl (x1, x4, x5, x6, v122, h111))))
   else (
    qup (some ((0 : Int32), h111)))))))))
set_option maxRecDepth 20000 in
theorem s_X3_isClear_b48 {l : Launch} {g : qa_G} {d : Nat} {rz : Option Value} {hz : qa_M} (a0 : Nat) (ha0 : qLand a0) (x1 : Int32) (x4 : Int32) (x5 : Int32) (x6 : Int32) (x7 : Int32) (h : qa_M) {z : ((Int32 × Int32 × Int32 × Int32 × Int32 × qa_M) ⊕ (Int32 × qa_M))} (E : f_X3_isClear_b48 a0 x1 x4 x5 x6 x7 h = some z) (G : (Sum.elim (fun (sz : Int32 × Int32 × Int32 × Int32 × Int32 × qa_M) => qt_At l g (yX3_isClear, cX3_isClear, 10, (some .boolean)) (d + 1) 0 0 48 [(0, .ref (g.1 + a0)), (1, .int sz.1), (4, .int sz.2.1), (5, .int sz.2.2.1), (6, .int sz.2.2.2.1), (7, .int sz.2.2.2.2.1)] [] sz.2.2.2.2.2 rz hz) (qg_i rz hz)) z) : qt_At l g (yX3_isClear, cX3_isClear, 10, (some .boolean)) (d + 1) 0 0 48 [(0, .ref (g.1 + a0)), (1, .int x1), (4, .int x4), (5, .int x5), (6, .int x6), (7, .int x7)] [] h rz hz := by
  unfold f_X3_isClear_b48 at E
  refine qt_iload 5 dX3_isClear_48 rfl ?_
  refine qt_iload 4 dX3_isClear_50 rfl ?_
  refine qt_icmp_ge 128 dX3_isClear_52 (by decide) E (fun E => ?_) (fun E => ?_)
  · refine qt_iconst dX3_isClear_128 ci_1 ?_
    obtain ⟨z0_, E, G⟩ := qup_g E G
    exact qt_zreturn rfl (Or.inr rfl) (Nat.le_of_ble_eq_true rfl) dX3_isClear_129 E G
  · refine qt_iload_n 1 dX3_isClear_55 rfl rfl ?_
    refine qt_bipush dX3_isClear_56 cb_6 ?_
    refine qt_iremK dX3_isClear_58 (by decide) ?_
    refine qt_iconst dX3_isClear_59 ci_2 ?_
    refine qt_iload 5 dX3_isClear_60 rfl ?_
    refine qt_imul dX3_isClear_62 ?_
    refine qt_iload 2 dX3_isClear_63 rfl ?_
    refine qt_imul dX3_isClear_65 ?_
    refine qt_iload 4 dX3_isClear_66 rfl ?_
    refine qt_iadd dX3_isClear_68 ?_
    refine qt_iconst dX3_isClear_69 ci_2 ?_
    refine qt_iload 4 dX3_isClear_70 rfl ?_
    refine qt_imul dX3_isClear_72 ?_
    obtain ⟨c73, h73, e73, E⟩ := qbn_el E
    refine qt_callSi (b2 := 0) [.int ((((2 : Int32) * x7) * x4) + x6), .int ((2 : Int32) * x6)] (c_J9_floorDiv_7cf53 ((((2 : Int32) * x7) * x4) + x6) ((2 : Int32) * x6) h e73) cv_RX3_90 rfl (Nat.le_of_ble_eq_true rfl) (Nat.le_of_ble_eq_true rfl) dX3_isClear_73 ?_
    refine qt_iadd dX3_isClear_76 ?_
    refine qt_istore (fun v77 => [(8, .int v77), (0, .ref (g.1 + a0)), (1, .int x1), (4, .int x4), (5, .int x5), (6, .int x6), (7, .int x7)]) dX3_isClear_77 (Nat.le_of_ble_eq_true rfl) (fun _ => rfl) E (fun v77 E => ?_)
    refine qt_iload_n 2 dX3_isClear_79 rfl rfl ?_
    refine qt_bipush dX3_isClear_80 cb_6 ?_
    refine qt_idivK dX3_isClear_82 (by decide) ?_
    refine qt_iconst dX3_isClear_83 ci_2 ?_
    refine qt_iload 6 dX3_isClear_84 rfl ?_
    refine qt_imul dX3_isClear_86 ?_
    refine qt_iload 4 dX3_isClear_87 rfl ?_
    refine qt_imul dX3_isClear_89 ?_
    refine qt_iload 5 dX3_isClear_90 rfl ?_
    refine qt_iadd dX3_isClear_92 ?_
    refine qt_iconst dX3_isClear_93 ci_2 ?_
    refine qt_iload 5 dX3_isClear_94 rfl ?_
    refine qt_imul dX3_isClear_96 ?_
    obtain ⟨c97, h97, e97, E⟩ := qbn_el E
    refine qt_callSi (b2 := 0) [.int ((((2 : Int32) * x7) * x5) + x6), .int ((2 : Int32) * x6)] (c_J9_floorDiv_7cf53 ((((2 : Int32) * x7) * x5) + x6) ((2 : Int32) * x6) h73 e97) cv_RX3_90 rfl (Nat.le_of_ble_eq_true rfl) (Nat.le_of_ble_eq_true rfl) dX3_isClear_97 ?_
    refine qt_iadd dX3_isClear_100 ?_
    refine qt_istore (fun v101 => [(9, .int v101), (8, .int v77), (0, .ref (g.1 + a0)), (1, .int x1), (4, .int x4), (5, .int x5), (6, .int x6), (7, .int x7)]) dX3_isClear_101 (Nat.le_of_ble_eq_true rfl) (fun _ => rfl) E (fun v101 E => ?_)
    refine qt_aload_n 2 dX3_isClear_103 rfl rfl ?_
    refine qt_getJ (wl_Land_0 ha0 h97) fe_RX3_51 rfl dX3_isClear_104 ?_
    refine qt_iload 1 dX3_isClear_107 rfl ?_
    refine qt_iload 0 dX3_isClear_109 rfl ?_
    obtain ⟨c111, h111, e111, E⟩ := qbn_el E
    refine qt_callSl (b2 := 0) [.int v77, .int v101] (c_X2_bit v77 v101 h97 e111) cv_RX3_93 rfl (Nat.le_of_ble_eq_true rfl) (Nat.le_of_ble_eq_true rfl) dX3_isClear_111 ?_
    refine qt_land dX3_isClear_114 ?_
    refine qt_lconst dX3_isClear_115 cl_0 ?_
    refine qt_lc_eq 122 dX3_isClear_116 dX3_isClear_117 (by decide) E (fun E => ?_) (fun E => ?_)
    · refine qt_iinc 7 (fun v122 => [(7, .int v122), (9, .int v101), (8, .int v77), (0, .ref (g.1 + a0)), (1, .int x1), (4, .int x4), (5, .int x5), (6, .int x6)]) dX3_isClear_122 rfl ci_1 (Nat.le_of_ble_eq_true rfl) (fun _ => rfl) E (fun v122 E => ?_)
      refine qt_goto 48 dX3_isClear_125 (by decide) ?_
      cases E
      exact qt_sub _ [3, 4, 5, 6, 7, 0] rfl (G)
    · refine qt_iconst dX3_isClear_120 ci_0 ?_
      obtain ⟨z0_, E, G⟩ := qup_g E G
      exact qt_zreturn rfl (Or.inl rfl) (Nat.le_of_ble_eq_true rfl) dX3_isClear_121 E G
noncomputable def f_X3_isClear_b48_loop (a0 : Nat) (x1 : Int32) (x4 : Int32) (x5 : Int32) (x6 : Int32) (x7 : Int32) (h : qa_M) : Option (Int32 × qa_M) := qlp (fun sz : Int32 × Int32 × Int32 × Int32 × Int32 × qa_M => f_X3_isClear_b48 a0 sz.1 sz.2.1 sz.2.2.1 sz.2.2.2.1 sz.2.2.2.2.1 sz.2.2.2.2.2) (x1, x4, x5, x6, x7, h)
theorem s_X3_isClear_b48_loop {l : Launch} {g : qa_G} {d : Nat} {rz : Option Value} {hz : qa_M} (a0 : Nat) (ha0 : qLand a0) (x1 : Int32) (x4 : Int32) (x5 : Int32) (x6 : Int32) (x7 : Int32) (h : qa_M) {z : (Int32 × qa_M)} (E : f_X3_isClear_b48_loop a0 x1 x4 x5 x6 x7 h = some z) (G : (qg_i rz hz) z) : qt_At l g (yX3_isClear, cX3_isClear, 10, (some .boolean)) (d + 1) 0 0 48 [(0, .ref (g.1 + a0)), (1, .int x1), (4, .int x4), (5, .int x5), (6, .int x6), (7, .int x7)] [] h rz hz :=
  qlp_ind (fun sz : Int32 × Int32 × Int32 × Int32 × Int32 × qa_M => qt_At l g (yX3_isClear, cX3_isClear, 10, (some .boolean)) (d + 1) 0 0 48 [(0, .ref (g.1 + a0)), (1, .int sz.1), (4, .int sz.2.1), (5, .int sz.2.2.1), (6, .int sz.2.2.2.1), (7, .int sz.2.2.2.2.1)] [] sz.2.2.2.2.2 rz hz) (fun sz E => s_X3_isClear_b48 a0 ha0 sz.1 sz.2.1 sz.2.2.1 sz.2.2.2.1 sz.2.2.2.2.1 sz.2.2.2.2.2 E G) (fun sz sz2 E ih => s_X3_isClear_b48 a0 ha0 sz.1 sz.2.1 sz.2.2.1 sz.2.2.2.1 sz.2.2.2.2.1 sz.2.2.2.2.2 E ih) (x1, x4, x5, x6, x7, h) E
noncomputable def m_X3_isClear (a0 : Nat) (x1 : Int32) (x2 : Int32) (x3 : Int32) (h : qa_M) : Option (Int32 × qa_M) :=
  qbd ((x2 - x2 / (6 : Int32) * (6 : Int32)) - (x1 - x1 / (6 : Int32) * (6 : Int32))) (fun v9 : Int32 =>
  qbd ((x2 / (6 : Int32)) - (x1 / (6 : Int32))) (fun v20 : Int32 =>
  qbd (q_max (q_abs v9) (q_abs v20)) (fun v35 : Int32 =>
  if v35 ≤ x3 then (
   qbd (1 : Int32) (fun v46 : Int32 =>
   f_X3_isClear_b48_loop a0 x1 v9 v20 v35 v46 h))
  else (
   some ((0 : Int32), h)))))
set_option maxRecDepth 20000 in
theorem c_X3_isClear {l : Launch} {g : qa_G} {d : Nat} (a0 : Nat) (x1 : Int32) (x2 : Int32) (x3 : Int32) (h : qa_M) (ha0 : qLand a0) {c : Int32} {h1 : qa_M} (E : m_X3_isClear a0 x1 x2 x3 h = some (c, h1)) : qt_Met l g (yX3_isClear, cX3_isClear, 10, (some .boolean)) (d + 1) 0 [.ref (g.1 + a0), .int x1, .int x2, .int x3] h (some (.int c)) h1 := by
  refine qt_Met.of (plainFor_of_name (by decide)) (Nat.le_of_ble_eq_true rfl) ?_
  have G : qg_i (some (.int c)) h1 ((c, h1)) := ⟨rfl, rfl⟩
  unfold m_X3_isClear at E
  refine qt_iload_n 2 dX3_isClear_0 rfl rfl ?_
  refine qt_bipush dX3_isClear_1 cb_6 ?_
  refine qt_iremK dX3_isClear_3 (by decide) ?_
  refine qt_iload_n 1 dX3_isClear_4 rfl rfl ?_
  refine qt_bipush dX3_isClear_5 cb_6 ?_
  refine qt_iremK dX3_isClear_7 (by decide) ?_
  refine qt_isub dX3_isClear_8 ?_
  refine qt_istore (fun v9 => [(4, .int v9), (0, .ref (g.1 + a0)), (1, .int x1), (2, .int x2), (3, .int x3)]) dX3_isClear_9 (Nat.le_of_ble_eq_true rfl) (fun _ => rfl) E (fun v9 E => ?_)
  refine qt_iload_n 3 dX3_isClear_11 rfl rfl ?_
  refine qt_bipush dX3_isClear_12 cb_6 ?_
  refine qt_idivK dX3_isClear_14 (by decide) ?_
  refine qt_iload_n 2 dX3_isClear_15 rfl rfl ?_
  refine qt_bipush dX3_isClear_16 cb_6 ?_
  refine qt_idivK dX3_isClear_18 (by decide) ?_
  refine qt_isub dX3_isClear_19 ?_
  refine qt_istore (fun v20 => [(5, .int v20), (4, .int v9), (0, .ref (g.1 + a0)), (1, .int x1), (2, .int x2), (3, .int x3)]) dX3_isClear_20 (Nat.le_of_ble_eq_true rfl) (fun _ => rfl) E (fun v20 E => ?_)
  refine qt_iload 1 dX3_isClear_22 rfl ?_
  refine qt_mabs tb_758 dX3_isClear_24 (Nat.le_of_ble_eq_true rfl) ?_
  refine qt_iload 0 dX3_isClear_27 rfl ?_
  refine qt_mabs tb_758 dX3_isClear_29 (Nat.le_of_ble_eq_true rfl) ?_
  refine qt_mmax tb_761 dX3_isClear_32 (Nat.le_of_ble_eq_true rfl) ?_
  refine qt_istore (fun v35 => [(6, .int v35), (5, .int v20), (4, .int v9), (0, .ref (g.1 + a0)), (1, .int x1), (2, .int x2), (3, .int x3)]) dX3_isClear_35 (Nat.le_of_ble_eq_true rfl) (fun _ => rfl) E (fun v35 E => ?_)
  refine qt_iload 0 dX3_isClear_37 rfl ?_
  refine qt_iload_n 6 dX3_isClear_39 rfl rfl ?_
  refine qt_icmp_le 45 dX3_isClear_40 (by decide) E (fun E => ?_) (fun E => ?_)
  · refine qt_iconst dX3_isClear_45 ci_1 ?_
    refine qt_istore (fun v46 => [(7, .int v46), (6, .int v35), (5, .int v20), (4, .int v9), (0, .ref (g.1 + a0)), (1, .int x1), (2, .int x2), (3, .int x3)]) dX3_isClear_46 (Nat.le_of_ble_eq_true rfl) (fun _ => rfl) E (fun v46 E => ?_)
    exact qt_sub _ [4, 5, 3, 2, 1, 0] rfl ((s_X3_isClear_b48_loop a0 ha0 x1 v9 v20 v35 v46 h E G))
  · refine qt_iconst dX3_isClear_43 ci_0 ?_
    exact qt_zreturn rfl (Or.inl rfl) (Nat.le_of_ble_eq_true rfl) dX3_isClear_44 E G
noncomputable def f_X3_view_b44 (a0 : Nat) (x1 : Int32) (x2 : Int32) (x3 : Int64) (x5 : Int32) (h : qa_M) : Option ((Int32 × Int32 × Int64 × Int32 × qa_M) ⊕ (Int64 × qa_M)) :=
  qbd (x5 + (1 : Int32)) (fun v44 : Int32 =>
  some (.inl (x1, x2, x3, v44, h)))
set_option maxRecDepth 20000 in
theorem s_X3_view_b44 {l : Launch} {g : qa_G} {d : Nat} {rz : Option Value} {hz : qa_M} (a0 : Nat) (ha0 : qLand a0) (x1 : Int32) (x2 : Int32) (x3 : Int64) (x5 : Int32) (h : qa_M) {z : ((Int32 × Int32 × Int64 × Int32 × qa_M) ⊕ (Int64 × qa_M))} (E : f_X3_view_b44 a0 x1 x2 x3 x5 h = some z) (G : (Sum.elim (fun (sz : Int32 × Int32 × Int64 × Int32 × qa_M) => qt_At l g (yX3_view, cX3_view, 6, (some .long)) (d + 2) 0 0 5 [(0, .ref (g.1 + a0)), (1, .int sz.1), (2, .int sz.2.1), (3, .long sz.2.2.1), (5, .int sz.2.2.2.1)] [] sz.2.2.2.2 rz hz) (qg_l rz hz)) z) : qt_At l g (yX3_view, cX3_view, 6, (some .long)) (d + 2) 0 0 44 [(0, .ref (g.1 + a0)), (1, .int x1), (2, .int x2), (3, .long x3), (5, .int x5)] [] h rz hz := by
  unfold f_X3_view_b44 at E
  refine qt_iinc 4 (fun v44 => [(5, .int v44), (0, .ref (g.1 + a0)), (1, .int x1), (2, .int x2), (3, .long x3)]) dX3_view_44 rfl ci_1 (Nat.le_of_ble_eq_true rfl) (fun _ => rfl) E (fun v44 E => ?_)
  refine qt_goto 5 dX3_view_47 (by decide) ?_
  cases E
  exact qt_sub _ [1, 2, 3, 4, 0] rfl (G)
noncomputable def f_X3_view_b5 (a0 : Nat) (x1 : Int32) (x2 : Int32) (x3 : Int64) (x5 : Int32) (h : qa_M) : Option ((Int32 × Int32 × Int64 × Int32 × qa_M) ⊕ (Int64 × qa_M)) :=
  if (36 : Int32) ≤ x5 then (
   qup (some (x3, h)))
  else (
   if ((q_lushr (h.2.1 a0 6) x5) &&& (1 : Int64)) = (0 : Int64) then (
    f_X3_view_b44 a0 x1 x2 x3 x5 h)
   else (
    qbn (m_X3_isClear a0 x1 x5 x2 h) (fun (c31 : Int32) (h31 : qa_M) =>
    if c31 = 0 then (
     f_X3_view_b44 a0 x1 x2 x3 x5 h31)
    else (
     qbd (x3 ||| (q_lshl (1 : Int64) x5)) (fun v43 : Int64 =>
     f_X3_view_b44 a0 x1 x2 v43 x5 h31)))))
set_option maxRecDepth 20000 in
theorem s_X3_view_b5 {l : Launch} {g : qa_G} {d : Nat} {rz : Option Value} {hz : qa_M} (a0 : Nat) (ha0 : qLand a0) (x1 : Int32) (x2 : Int32) (x3 : Int64) (x5 : Int32) (h : qa_M) {z : ((Int32 × Int32 × Int64 × Int32 × qa_M) ⊕ (Int64 × qa_M))} (E : f_X3_view_b5 a0 x1 x2 x3 x5 h = some z) (G : (Sum.elim (fun (sz : Int32 × Int32 × Int64 × Int32 × qa_M) => qt_At l g (yX3_view, cX3_view, 6, (some .long)) (d + 2) 0 0 5 [(0, .ref (g.1 + a0)), (1, .int sz.1), (2, .int sz.2.1), (3, .long sz.2.2.1), (5, .int sz.2.2.2.1)] [] sz.2.2.2.2 rz hz) (qg_l rz hz)) z) : qt_At l g (yX3_view, cX3_view, 6, (some .long)) (d + 2) 0 0 5 [(0, .ref (g.1 + a0)), (1, .int x1), (2, .int x2), (3, .long x3), (5, .int x5)] [] h rz hz := by
  unfold f_X3_view_b5 at E
  refine qt_iload 4 dX3_view_5 rfl ?_
  refine qt_bipush dX3_view_7 cb_36 ?_
  refine qt_icmp_ge 50 dX3_view_9 (by decide) E (fun E => ?_) (fun E => ?_)
  · refine qt_lload_n 3 dX3_view_50 rfl rfl ?_
    obtain ⟨z0_, E, G⟩ := qup_g E G
    exact qt_lreturn rfl (Nat.le_of_ble_eq_true rfl) dX3_view_51 E G
  · refine qt_aload_n 0 dX3_view_12 rfl rfl ?_
    refine qt_getJ (wl_Land_0 ha0 h) fe_RX3_47 rfl dX3_view_13 ?_
    refine qt_iload 4 dX3_view_16 rfl ?_
    refine qt_lushr dX3_view_18 ?_
    refine qt_lconst dX3_view_19 cl_1 ?_
    refine qt_land dX3_view_20 ?_
    refine qt_lconst dX3_view_21 cl_0 ?_
    refine qt_lc_eq 44 dX3_view_22 dX3_view_23 (by decide) E (fun E => ?_) (fun E => ?_)
    · exact qt_sub _ [0, 1, 2, 3, 4] rfl ((s_X3_view_b44 a0 ha0 x1 x2 x3 x5 h E G))
    · refine qt_aload_n 0 dX3_view_26 rfl rfl ?_
      refine qt_iload_n 1 dX3_view_27 rfl rfl ?_
      refine qt_iload 4 dX3_view_28 rfl ?_
      refine qt_iload_n 2 dX3_view_30 rfl rfl ?_
      obtain ⟨c31, h31, e31, E⟩ := qbn_el E
      refine qt_callVi (b2 := 0) [.int x1, .int x5, .int x2] (c_X3_isClear a0 x1 x5 x2 h ha0 e31) cv_RX3_76 (wl_Land_0 ha0 h) rfl rfl rfl (Nat.le_of_ble_eq_true rfl) (Nat.le_of_ble_eq_true rfl) dX3_view_31 ?_
      refine qt_if_eq 44 dX3_view_34 (by decide) E (fun E => ?_) (fun E => ?_)
      · exact qt_sub _ [0, 1, 2, 3, 4] rfl ((s_X3_view_b44 a0 ha0 x1 x2 x3 x5 h31 E G))
      · refine qt_lload_n 3 dX3_view_37 rfl rfl ?_
        refine qt_lconst dX3_view_38 cl_1 ?_
        refine qt_iload 4 dX3_view_39 rfl ?_
        refine qt_lshl dX3_view_41 ?_
        refine qt_lor dX3_view_42 ?_
        refine qt_lstore_n (fun v43 => [(3, .long v43), (0, .ref (g.1 + a0)), (1, .int x1), (2, .int x2), (5, .int x5)]) dX3_view_43 rfl (Nat.le_of_ble_eq_true rfl) (fun _ => rfl) E (fun v43 E => ?_)
        exact qt_sub _ [1, 2, 3, 0, 4] rfl ((s_X3_view_b44 a0 ha0 x1 x2 v43 x5 h31 E G))
noncomputable def f_X3_view_b5_loop (a0 : Nat) (x1 : Int32) (x2 : Int32) (x3 : Int64) (x5 : Int32) (h : qa_M) : Option (Int64 × qa_M) := qlp (fun sz : Int32 × Int32 × Int64 × Int32 × qa_M => f_X3_view_b5 a0 sz.1 sz.2.1 sz.2.2.1 sz.2.2.2.1 sz.2.2.2.2) (x1, x2, x3, x5, h)
theorem s_X3_view_b5_loop {l : Launch} {g : qa_G} {d : Nat} {rz : Option Value} {hz : qa_M} (a0 : Nat) (ha0 : qLand a0) (x1 : Int32) (x2 : Int32) (x3 : Int64) (x5 : Int32) (h : qa_M) {z : (Int64 × qa_M)} (E : f_X3_view_b5_loop a0 x1 x2 x3 x5 h = some z) (G : (qg_l rz hz) z) : qt_At l g (yX3_view, cX3_view, 6, (some .long)) (d + 2) 0 0 5 [(0, .ref (g.1 + a0)), (1, .int x1), (2, .int x2), (3, .long x3), (5, .int x5)] [] h rz hz :=
  qlp_ind (fun sz : Int32 × Int32 × Int64 × Int32 × qa_M => qt_At l g (yX3_view, cX3_view, 6, (some .long)) (d + 2) 0 0 5 [(0, .ref (g.1 + a0)), (1, .int sz.1), (2, .int sz.2.1), (3, .long sz.2.2.1), (5, .int sz.2.2.2.1)] [] sz.2.2.2.2 rz hz) (fun sz E => s_X3_view_b5 a0 ha0 sz.1 sz.2.1 sz.2.2.1 sz.2.2.2.1 sz.2.2.2.2 E G) (fun sz sz2 E ih => s_X3_view_b5 a0 ha0 sz.1 sz.2.1 sz.2.2.1 sz.2.2.2.1 sz.2.2.2.2 E ih) (x1, x2, x3, x5, h) E
noncomputable def m_X3_view (a0 : Nat) (x1 : Int32) (x2 : Int32) (h : qa_M) : Option (Int64 × qa_M) :=
  qbd (0 : Int64) (fun v1 : Int64 =>
  qbd (0 : Int32) (fun v3 : Int32 =>
  f_X3_view_b5_loop a0 x1 x2 v1 v3 h))
set_option maxRecDepth 20000 in
theorem c_X3_view {l : Launch} {g : qa_G} {d : Nat} (a0 : Nat) (x1 : Int32) (x2 : Int32) (h : qa_M) (ha0 : qLand a0) {c : Int64} {h1 : qa_M} (E : m_X3_view a0 x1 x2 h = some (c, h1)) : qt_Met l g (yX3_view, cX3_view, 6, (some .long)) (d + 2) 0 [.ref (g.1 + a0), .int x1, .int x2] h (some (.long c)) h1 := by
  refine qt_Met.of (plainFor_of_name (by decide)) (Nat.le_of_ble_eq_true rfl) ?_
  have G : qg_l (some (.long c)) h1 ((c, h1)) := ⟨rfl, rfl⟩
  unfold m_X3_view at E
  refine qt_lconst dX3_view_0 cl_0 ?_
  refine qt_lstore_n (fun v1 => [(3, .long v1), (0, .ref (g.1 + a0)), (1, .int x1), (2, .int x2)]) dX3_view_1 rfl (Nat.le_of_ble_eq_true rfl) (fun _ => rfl) E (fun v1 E => ?_)
  refine qt_iconst dX3_view_2 ci_0 ?_
  refine qt_istore (fun v3 => [(5, .int v3), (3, .long v1), (0, .ref (g.1 + a0)), (1, .int x1), (2, .int x2)]) dX3_view_3 (Nat.le_of_ble_eq_true rfl) (fun _ => rfl) E (fun v3 E => ?_)
  exact qt_sub _ [2, 3, 4, 1, 0] rfl ((s_X3_view_b5_loop a0 ha0 x1 x2 v1 v3 h E G))
noncomputable def f_X3_settle_b60 (x1 : Int32) (h : qa_M) : Option ((Int32 × qa_M) ⊕ qa_M) :=
  if (h.1 14 2) ≤ x1 then (
   qup (some h))
  else (
   qck x1 8 (
   qck x1 8 (
   qbn (m_X3_view 14 (h.1 15 x1.toNatClampNeg) (h.1 16 x1.toNatClampNeg) h) (fun (c86 : Int64) (h86 : qa_M) =>
   qck x1 8 (
   qbd (qw_J h86 17 x1.toNatClampNeg c86) (fun h89 : qa_M =>
   qbd (x1 + (1 : Int32)) (fun v90 : Int32 =>
   some (.inl (v90, h89)))))))))
set_option maxRecDepth 20000 in
theorem s_X3_settle_b60 {l : Launch} {g : qa_G} {d : Nat} {rz : Option Value} {hz : qa_M} (x1 : Int32) (h : qa_M) {z : ((Int32 × qa_M) ⊕ qa_M)} (E : f_X3_settle_b60 x1 h = some z) (G : (Sum.elim (fun (sz : Int32 × qa_M) => qt_At l g (yX3_settle, cX3_settle, 2, none) (d + 3) 0 0 60 [(0, .ref (g.1 + 14)), (1, .int sz.1)] [] sz.2 rz hz) (qg_v rz hz)) z) : qt_At l g (yX3_settle, cX3_settle, 2, none) (d + 3) 0 0 60 [(0, .ref (g.1 + 14)), (1, .int x1)] [] h rz hz := by
  unfold f_X3_settle_b60 at E
  refine qt_iload_n 1 dX3_settle_60 rfl rfl ?_
  refine qt_aload_n 0 dX3_settle_61 rfl rfl ?_
  refine qt_getI (wl_14 h) fe_RX3_35 rfl dX3_settle_62 ?_
  refine qt_icmp_ge 96 dX3_settle_65 (by decide) E (fun E => ?_) (fun E => ?_)
  · obtain ⟨z0_, E, G⟩ := qup_g E G
    exact qt_vreturn rfl (Nat.le_of_ble_eq_true rfl) dX3_settle_96 E G
  · refine qt_aload_n 0 dX3_settle_68 rfl rfl ?_
    refine qt_getS 17 (wl_14 h) fe_RX3_18 rfl dX3_settle_69 ?_
    refine qt_iload_n 1 dX3_settle_72 rfl rfl ?_
    refine qt_aload_n 0 dX3_settle_73 rfl rfl ?_
    refine qt_aload_n 0 dX3_settle_74 rfl rfl ?_
    refine qt_getS 15 (wl_14 h) fe_RX3_9 rfl dX3_settle_75 ?_
    refine qt_iload_n 1 dX3_settle_78 rfl rfl ?_
    refine qt_iald (wl_15 h) dX3_settle_79 E (fun E => ?_)
    refine qt_aload_n 0 dX3_settle_80 rfl rfl ?_
    refine qt_getS 16 (wl_14 h) fe_RX3_15 rfl dX3_settle_81 ?_
    refine qt_iload_n 1 dX3_settle_84 rfl rfl ?_
    refine qt_iald (wl_16 h) dX3_settle_85 E (fun E => ?_)
    obtain ⟨c86, h86, e86, E⟩ := qbn_el E
    refine qt_callVl (b2 := 0) [.int (h.1 15 x1.toNatClampNeg), .int (h.1 16 x1.toNatClampNeg)] (c_X3_view 14 (h.1 15 x1.toNatClampNeg) (h.1 16 x1.toNatClampNeg) h (show qLand 14 by unfold qLand; decide) e86) cv_RX3_72 (wl_14 h) rfl rfl rfl (Nat.le_of_ble_eq_true rfl) (Nat.le_of_ble_eq_true rfl) dX3_settle_86 ?_
    refine qt_last (wl_17 h86) dX3_settle_89 E (fun h89 E => ?_)
    refine qt_iinc 1 (fun v90 => [(1, .int v90), (0, .ref (g.1 + 14))]) dX3_settle_90 rfl ci_1 (Nat.le_of_ble_eq_true rfl) (fun _ => rfl) E (fun v90 E => ?_)
    refine qt_goto 60 dX3_settle_93 (by decide) ?_
    cases E
    exact qt_sub _ [1, 0] rfl (G)
noncomputable def f_X3_settle_b60_loop (x1 : Int32) (h : qa_M) : Option qa_M := qlp (fun sz : Int32 × qa_M => f_X3_settle_b60 sz.1 sz.2) (x1, h)
theorem s_X3_settle_b60_loop {l : Launch} {g : qa_G} {d : Nat} {rz : Option Value} {hz : qa_M} (x1 : Int32) (h : qa_M) {z : qa_M} (E : f_X3_settle_b60_loop x1 h = some z) (G : (qg_v rz hz) z) : qt_At l g (yX3_settle, cX3_settle, 2, none) (d + 3) 0 0 60 [(0, .ref (g.1 + 14)), (1, .int x1)] [] h rz hz :=
  qlp_ind (fun sz : Int32 × qa_M => qt_At l g (yX3_settle, cX3_settle, 2, none) (d + 3) 0 0 60 [(0, .ref (g.1 + 14)), (1, .int sz.1)] [] sz.2 rz hz) (fun sz E => s_X3_settle_b60 sz.1 sz.2 E G) (fun sz sz2 E ih => s_X3_settle_b60 sz.1 sz.2 E ih) (x1, h) E
noncomputable def f_X3_settle_b58 (h : qa_M) : Option qa_M :=
  qbd (0 : Int32) (fun v59 : Int32 =>
  f_X3_settle_b60_loop v59 h)
set_option maxRecDepth 20000 in
theorem s_X3_settle_b58 {l : Launch} {g : qa_G} {d : Nat} {rz : Option Value} {hz : qa_M} (h : qa_M) {z : qa_M} (E : f_X3_settle_b58 h = some z) (G : (qg_v rz hz) z) : qt_At l g (yX3_settle, cX3_settle, 2, none) (d + 3) 0 0 58 [(0, .ref (g.1 + 14))] [] h rz hz := by
  unfold f_X3_settle_b58 at E
  refine qt_iconst dX3_settle_58 ci_0 ?_
  refine qt_istore_n (fun v59 => [(1, .int v59), (0, .ref (g.1 + 14))]) dX3_settle_59 rfl (Nat.le_of_ble_eq_true rfl) (fun _ => rfl) E (fun v59 E => ?_)
  exact qt_sub _ [1, 0] rfl ((s_X3_settle_b60_loop v59 h E G))
noncomputable def f_X3_settle_b23 (x1 : Int32) (h : qa_M) : Option ((Int32 × qa_M) ⊕ qa_M) :=
  if (h.1 14 2) ≤ x1 then (
   qup (f_X3_settle_b58 h))
  else (
   qck x1 8 (
   qbd (qw_J h 14 7 ((h.2.1 14 7) &&& ((q_lshl (1 : Int64) (h.1 15 x1.toNatClampNeg)) ^^^ (-1 : Int64)))) (fun h49 : qa_M =>
   qbd (x1 + (1 : Int32)) (fun v52 : Int32 =>
   some (.inl (v52, h49))))))
set_option maxRecDepth 20000 in
theorem s_X3_settle_b23 {l : Launch} {g : qa_G} {d : Nat} {rz : Option Value} {hz : qa_M} (x1 : Int32) (h : qa_M) {z : ((Int32 × qa_M) ⊕ qa_M)} (E : f_X3_settle_b23 x1 h = some z) (G : (Sum.elim (fun (sz : Int32 × qa_M) => qt_At l g (yX3_settle, cX3_settle, 2, none) (d + 3) 0 0 23 [(0, .ref (g.1 + 14)), (1, .int sz.1)] [] sz.2 rz hz) (qg_v rz hz)) z) : qt_At l g (yX3_settle, cX3_settle, 2, none) (d + 3) 0 0 23 [(0, .ref (g.1 + 14)), (1, .int x1)] [] h rz hz := by
  unfold f_X3_settle_b23 at E
  refine qt_iload_n 1 dX3_settle_23 rfl rfl ?_
  refine qt_aload_n 0 dX3_settle_24 rfl rfl ?_
  refine qt_getI (wl_14 h) fe_RX3_35 rfl dX3_settle_25 ?_
  refine qt_icmp_ge 58 dX3_settle_28 (by decide) E (fun E => ?_) (fun E => ?_)
  · obtain ⟨z0_, E, G⟩ := qup_g E G
    exact qt_sub _ [0] rfl ((s_X3_settle_b58 h E G))
  · refine qt_aload_n 0 dX3_settle_31 rfl rfl ?_
    refine qt_dup dX3_settle_32 rfl ?_
    refine qt_getJ (wl_14 h) fe_RX3_51 rfl dX3_settle_33 ?_
    refine qt_lconst dX3_settle_36 cl_1 ?_
    refine qt_aload_n 0 dX3_settle_37 rfl rfl ?_
    refine qt_getS 15 (wl_14 h) fe_RX3_9 rfl dX3_settle_38 ?_
    refine qt_iload_n 1 dX3_settle_41 rfl rfl ?_
    refine qt_iald (wl_15 h) dX3_settle_42 E (fun E => ?_)
    refine qt_lshl dX3_settle_43 ?_
    refine qt_ldc2 tb_749 dX3_settle_44 ?_
    refine qt_lxor dX3_settle_47 ?_
    refine qt_land dX3_settle_48 ?_
    refine qt_putJ (wl_14 h) fd_RX3_51 rfl dX3_settle_49 E (fun h49 E => ?_)
    refine qt_iinc 1 (fun v52 => [(1, .int v52), (0, .ref (g.1 + 14))]) dX3_settle_52 rfl ci_1 (Nat.le_of_ble_eq_true rfl) (fun _ => rfl) E (fun v52 E => ?_)
    refine qt_goto 23 dX3_settle_55 (by decide) ?_
    cases E
    exact qt_sub _ [1, 0] rfl (G)
noncomputable def f_X3_settle_b23_loop (x1 : Int32) (h : qa_M) : Option qa_M := qlp (fun sz : Int32 × qa_M => f_X3_settle_b23 sz.1 sz.2) (x1, h)
theorem s_X3_settle_b23_loop {l : Launch} {g : qa_G} {d : Nat} {rz : Option Value} {hz : qa_M} (x1 : Int32) (h : qa_M) {z : qa_M} (E : f_X3_settle_b23_loop x1 h = some z) (G : (qg_v rz hz) z) : qt_At l g (yX3_settle, cX3_settle, 2, none) (d + 3) 0 0 23 [(0, .ref (g.1 + 14)), (1, .int x1)] [] h rz hz :=
  qlp_ind (fun sz : Int32 × qa_M => qt_At l g (yX3_settle, cX3_settle, 2, none) (d + 3) 0 0 23 [(0, .ref (g.1 + 14)), (1, .int sz.1)] [] sz.2 rz hz) (fun sz E => s_X3_settle_b23 sz.1 sz.2 E G) (fun sz sz2 E ih => s_X3_settle_b23 sz.1 sz.2 E ih) (x1, h) E
noncomputable def m_X3_settle (h : qa_M) : Option qa_M :=
  qbn (m_X2_box (0 : Int32) (0 : Int32) ((h.1 14 0) - (1 : Int32)) ((h.1 14 1) - (1 : Int32)) h) (fun (c15 : Int64) (h15 : qa_M) =>
  qbd (qw_J h15 14 6 c15) (fun h18 : qa_M =>
  qbd (0 : Int32) (fun v22 : Int32 =>
  f_X3_settle_b23_loop v22 h18)))
set_option maxRecDepth 20000 in
theorem c_X3_settle {l : Launch} {g : qa_G} {d : Nat} (h : qa_M) {h1 : qa_M} (E : m_X3_settle h = some h1) : qt_Met l g (yX3_settle, cX3_settle, 2, none) (d + 3) 0 [.ref (g.1 + 14)] h none h1 := by
  refine qt_Met.of (plainFor_of_name (by decide)) (Nat.le_of_ble_eq_true rfl) ?_
  have G : qg_v none h1 (h1) := ⟨rfl, rfl⟩
  unfold m_X3_settle at E
  refine qt_aload_n 0 dX3_settle_0 rfl rfl ?_
  refine qt_iconst dX3_settle_1 ci_0 ?_
  refine qt_iconst dX3_settle_2 ci_0 ?_
  refine qt_aload_n 0 dX3_settle_3 rfl rfl ?_
  refine qt_getI (wl_14 h) fe_RX3_28 rfl dX3_settle_4 ?_
  refine qt_iconst dX3_settle_7 ci_1 ?_
  refine qt_isub dX3_settle_8 ?_
  refine qt_aload_n 0 dX3_settle_9 rfl rfl ?_
  refine qt_getI (wl_14 h) fe_RX3_32 rfl dX3_settle_10 ?_
  refine qt_iconst dX3_settle_13 ci_1 ?_
  refine qt_isub dX3_settle_14 ?_
  obtain ⟨c15, h15, e15, E⟩ := qbn_el E
  refine qt_callSl (b2 := 0) [.int (0 : Int32), .int (0 : Int32), .int ((h.1 14 0) - (1 : Int32)), .int ((h.1 14 1) - (1 : Int32))] (c_X2_box (0 : Int32) (0 : Int32) ((h.1 14 0) - (1 : Int32)) ((h.1 14 1) - (1 : Int32)) h e15) cv_RX3_66 rfl (Nat.le_of_ble_eq_true rfl) (Nat.le_of_ble_eq_true rfl) dX3_settle_15 ?_
  refine qt_putJ (wl_14 h15) fd_RX3_47 rfl dX3_settle_18 E (fun h18 E => ?_)
  refine qt_iconst dX3_settle_21 ci_0 ?_
  refine qt_istore_n (fun v22 => [(1, .int v22), (0, .ref (g.1 + 14))]) dX3_settle_22 rfl (Nat.le_of_ble_eq_true rfl) (fun _ => rfl) E (fun v22 E => ?_)
  exact qt_sub _ [1, 0] rfl ((s_X3_settle_b23_loop v22 h18 E G))
noncomputable def m_X9_isSign (x1 : Int32) (h : qa_M) : Option (Int32 × qa_M) :=
  if (h.1 1 3) = (3 : Int32) then (
   if (h.1 1 5) = x1 then (
    some ((1 : Int32), h))
   else (
    some ((0 : Int32), h)))
  else (
   some ((0 : Int32), h))
set_option maxRecDepth 20000 in
theorem c_X9_isSign {l : Launch} {g : qa_G} {d : Nat} (x1 : Int32) (h : qa_M) {c : Int32} {h1 : qa_M} (E : m_X9_isSign x1 h = some (c, h1)) : qt_Met l g (yX9_isSign, cX9_isSign, 2, (some .boolean)) d 0 [.ref (g.1 + 1), .int x1] h (some (.int c)) h1 := by
  refine qt_Met.of (plainFor_of_name (by decide)) (Nat.le_of_ble_eq_true rfl) ?_
  have G : qg_i (some (.int c)) h1 ((c, h1)) := ⟨rfl, rfl⟩
  unfold m_X9_isSign at E
  refine qt_aload_n 0 dX9_isSign_0 rfl rfl ?_
  refine qt_getI (wl_1 h) fe_RX9_34 rfl dX9_isSign_1 ?_
  refine qt_iconst dX9_isSign_4 ci_3 ?_
  refine qt_icmp_ne 20 dX9_isSign_5 (by decide) E (fun E => ?_) (fun E => ?_)
  · refine qt_iconst dX9_isSign_20 ci_0 ?_
    exact qt_zreturn rfl (Or.inl rfl) (Nat.le_of_ble_eq_true rfl) dX9_isSign_21 E G
  · refine qt_aload_n 0 dX9_isSign_8 rfl rfl ?_
    refine qt_getI (wl_1 h) fe_RX9_31 rfl dX9_isSign_9 ?_
    refine qt_iload_n 1 dX9_isSign_12 rfl rfl ?_
    refine qt_icmp_ne 20 dX9_isSign_13 (by decide) E (fun E => ?_) (fun E => ?_)
    · refine qt_iconst dX9_isSign_20 ci_0 ?_
      exact qt_zreturn rfl (Or.inl rfl) (Nat.le_of_ble_eq_true rfl) dX9_isSign_21 E G
    · refine qt_iconst dX9_isSign_16 ci_1 ?_
      refine qt_goto 21 dX9_isSign_17 (by decide) ?_
      exact qt_zreturn rfl (Or.inr rfl) (Nat.le_of_ble_eq_true rfl) dX9_isSign_21 E G
noncomputable def f_X4_read_b99 (h : qa_M) : Option (Int32 × qa_M) :=
  some (h.1 1 7, h)
set_option maxRecDepth 20000 in
theorem s_X4_read_b99 {l : Launch} {g : qa_G} {d : Nat} {rz : Option Value} {hz : qa_M} (h : qa_M) {z : (Int32 × qa_M)} (E : f_X4_read_b99 h = some z) (G : (qg_i rz hz) z) : qt_At l g (yX4_read, cX4_read, 2, (some .int)) (d + 6) 0 0 99 [(0, .ref (g.1 + 20))] [] h rz hz := by
  unfold f_X4_read_b99 at E
  refine qt_aload_n 0 dX4_read_99 rfl rfl ?_
  refine qt_getS 1 (wl_20 h) fe_RX4_9 rfl dX4_read_100 ?_
  refine qt_getI (wl_1 h) fe_RX4_33 rfl dX4_read_103 ?_
  exact qt_ireturn rfl (Nat.le_of_ble_eq_true rfl) dX4_read_106 E G
noncomputable def f_X4_read_b69 (h : qa_M) : Option (Int32 × qa_M) :=
  qbn (m_X9_fail (0 : Int32) h) (fun (c74 : Int32) (h74 : qa_M) =>
  some (h74.1 1 7, h74))
set_option maxRecDepth 20000 in
theorem s_X4_read_b69 {l : Launch} {g : qa_G} {d : Nat} {rz : Option Value} {hz : qa_M} (h : qa_M) {z : (Int32 × qa_M)} (E : f_X4_read_b69 h = some z) (G : (qg_i rz hz) z) : qt_At l g (yX4_read, cX4_read, 2, (some .int)) (d + 6) 0 0 69 [(0, .ref (g.1 + 20))] [] h rz hz := by
  unfold f_X4_read_b69 at E
  refine qt_aload_n 0 dX4_read_69 rfl rfl ?_
  refine qt_getS 1 (wl_20 h) fe_RX4_9 rfl dX4_read_70 ?_
  refine qt_iconst dX4_read_73 ci_0 ?_
  obtain ⟨c74, h74, e74, E⟩ := qbn_el E
  refine qt_callVi (b2 := 0) [.int (0 : Int32)] (c_X9_fail (0 : Int32) h e74) cv_RX4_46 (wl_1 h) rfl rfl rfl (Nat.le_of_ble_eq_true rfl) (Nat.le_of_ble_eq_true rfl) dX4_read_74 ?_
  refine qt_pop dX4_read_77 rfl ?_
  refine qt_aload_n 0 dX4_read_78 rfl rfl ?_
  refine qt_getS 1 (wl_20 h74) fe_RX4_9 rfl dX4_read_79 ?_
  refine qt_getI (wl_1 h74) fe_RX4_33 rfl dX4_read_82 ?_
  exact qt_ireturn rfl (Nat.le_of_ble_eq_true rfl) dX4_read_85 E G
noncomputable def f_X4_read_b48 (h : qa_M) : Option (Int32 × qa_M) :=
  qbv (m_X3_settle h) (fun h52 : qa_M =>
  some ((0 : Int32), h52))
set_option maxRecDepth 20000 in
theorem s_X4_read_b48 {l : Launch} {g : qa_G} {d : Nat} {rz : Option Value} {hz : qa_M} (h : qa_M) {z : (Int32 × qa_M)} (E : f_X4_read_b48 h = some z) (G : (qg_i rz hz) z) : qt_At l g (yX4_read, cX4_read, 2, (some .int)) (d + 6) 0 0 48 [(0, .ref (g.1 + 20))] [] h rz hz := by
  unfold f_X4_read_b48 at E
  refine qt_aload_n 0 dX4_read_48 rfl rfl ?_
  refine qt_getS 14 (wl_20 h) fe_RX4_15 rfl dX4_read_49 ?_
  obtain ⟨h52, e52, E⟩ := qbv_el E
  refine qt_callVv (b2 := 0) [] (c_X3_settle h e52) cv_RX4_40 (wl_14 h) rfl rfl rfl (Nat.le_of_ble_eq_true rfl) (Nat.le_of_ble_eq_true rfl) dX4_read_52 ?_
  refine qt_iconst dX4_read_55 ci_0 ?_
  exact qt_ireturn rfl (Nat.le_of_ble_eq_true rfl) dX4_read_56 E G
noncomputable def f_X4_read_b30 (h : qa_M) : Option (Int32 × qa_M) :=
  some (h.1 1 7, h)
set_option maxRecDepth 20000 in
theorem s_X4_read_b30 {l : Launch} {g : qa_G} {d : Nat} {rz : Option Value} {hz : qa_M} (h : qa_M) {z : (Int32 × qa_M)} (E : f_X4_read_b30 h = some z) (G : (qg_i rz hz) z) : qt_At l g (yX4_read, cX4_read, 2, (some .int)) (d + 6) 0 0 30 [(0, .ref (g.1 + 20))] [] h rz hz := by
  unfold f_X4_read_b30 at E
  refine qt_aload_n 0 dX4_read_30 rfl rfl ?_
  refine qt_getS 1 (wl_20 h) fe_RX4_9 rfl dX4_read_31 ?_
  refine qt_getI (wl_1 h) fe_RX4_33 rfl dX4_read_34 ?_
  exact qt_ireturn rfl (Nat.le_of_ble_eq_true rfl) dX4_read_37 E G
noncomputable def f_X4_read_b16 (x1 : Int32) (h : qa_M) : Option ((Int32 × qa_M) ⊕ (Int32 × qa_M)) :=
  if (24 : Int32) < x1 then (
   qup (f_X4_read_b99 h))
  else (
   qbn (m_X4_readClause x1 h) (fun (c24 : Int32) (h24 : qa_M) =>
   if c24 = 0 then (
    qup (f_X4_read_b30 h24))
   else (
    if (h24.1 1 3) = 0 then (
     qup (f_X4_read_b48 h24))
    else (
     qbn (m_X9_isSign (59 : Int32) h24) (fun (c63 : Int32) (h63 : qa_M) =>
     if c63 = 0 then (
      qup (f_X4_read_b69 h63))
     else (
      qbv (m_X9_scan h63) (fun h90 : qa_M =>
      qbd (x1 + (1 : Int32)) (fun v93 : Int32 =>
      some (.inl (v93, h90))))))))))
set_option maxRecDepth 20000 in
theorem s_X4_read_b16 {l : Launch} {g : qa_G} {d : Nat} {rz : Option Value} {hz : qa_M} (x1 : Int32) (h : qa_M) {z : ((Int32 × qa_M) ⊕ (Int32 × qa_M))} (E : f_X4_read_b16 x1 h = some z) (G : (Sum.elim (fun (sz : Int32 × qa_M) => qt_At l g (yX4_read, cX4_read, 2, (some .int)) (d + 6) 0 0 16 [(0, .ref (g.1 + 20)), (1, .int sz.1)] [] sz.2 rz hz) (qg_i rz hz)) z) : qt_At l g (yX4_read, cX4_read, 2, (some .int)) (d + 6) 0 0 16 [(0, .ref (g.1 + 20)), (1, .int x1)] [] h rz hz := by
  unfold f_X4_read_b16 at E
  refine qt_iload_n 1 dX4_read_16 rfl rfl ?_
  refine qt_bipush dX4_read_17 cb_24 ?_
  refine qt_icmp_gt 99 dX4_read_19 (by decide) E (fun E => ?_) (fun E => ?_)
  · obtain ⟨z0_, E, G⟩ := qup_g E G
    exact qt_sub _ [0] rfl ((s_X4_read_b99 h E G))
  · refine qt_aload_n 0 dX4_read_22 rfl rfl ?_
    refine qt_iload_n 1 dX4_read_23 rfl rfl ?_
    obtain ⟨c24, h24, e24, E⟩ := qbn_el E
    refine qt_callVi (b2 := 0) [.int x1] (c_X4_readClause x1 h e24) cv_RX4_29 (wl_20 h) rfl rfl rfl (Nat.le_of_ble_eq_true rfl) (Nat.le_of_ble_eq_true rfl) dX4_read_24 ?_
    refine qt_if_ne 38 dX4_read_27 (by decide) E (fun E => ?_) (fun E => ?_)
    · refine qt_aload_n 0 dX4_read_38 rfl rfl ?_
      refine qt_getS 1 (wl_20 h24) fe_RX4_9 rfl dX4_read_39 ?_
      refine qt_getI (wl_1 h24) fe_RX4_37 rfl dX4_read_42 ?_
      refine qt_if_ne 57 dX4_read_45 (by decide) E (fun E => ?_) (fun E => ?_)
      · refine qt_aload_n 0 dX4_read_57 rfl rfl ?_
        refine qt_getS 1 (wl_20 h24) fe_RX4_9 rfl dX4_read_58 ?_
        refine qt_bipush dX4_read_61 cb_59 ?_
        obtain ⟨c63, h63, e63, E⟩ := qbn_el E
        refine qt_callVi (b2 := 0) [.int (59 : Int32)] (c_X9_isSign (59 : Int32) h24 e63) cv_RX4_43 (wl_1 h24) rfl rfl rfl (Nat.le_of_ble_eq_true rfl) (Nat.le_of_ble_eq_true rfl) dX4_read_63 ?_
        refine qt_if_ne 86 dX4_read_66 (by decide) E (fun E => ?_) (fun E => ?_)
        · refine qt_aload_n 0 dX4_read_86 rfl rfl ?_
          refine qt_getS 1 (wl_20 h63) fe_RX4_9 rfl dX4_read_87 ?_
          obtain ⟨h90, e90, E⟩ := qbv_el E
          refine qt_callVv (b2 := 0) [] (c_X9_scan h63 e90) cv_RX4_49 (wl_1 h63) rfl rfl rfl (Nat.le_of_ble_eq_true rfl) (Nat.le_of_ble_eq_true rfl) dX4_read_90 ?_
          refine qt_iinc 1 (fun v93 => [(1, .int v93), (0, .ref (g.1 + 20))]) dX4_read_93 rfl ci_1 (Nat.le_of_ble_eq_true rfl) (fun _ => rfl) E (fun v93 E => ?_)
          refine qt_goto 16 dX4_read_96 (by decide) ?_
          cases E
          exact qt_sub _ [1, 0] rfl (G)
        · obtain ⟨z0_, E, G⟩ := qup_g E G
          exact qt_sub _ [0] rfl ((s_X4_read_b69 h63 E G))
      · obtain ⟨z0_, E, G⟩ := qup_g E G
        exact qt_sub _ [0] rfl ((s_X4_read_b48 h24 E G))
    · obtain ⟨z0_, E, G⟩ := qup_g E G
      exact qt_sub _ [0] rfl ((s_X4_read_b30 h24 E G))
noncomputable def f_X4_read_b16_loop (x1 : Int32) (h : qa_M) : Option (Int32 × qa_M) := qlp (fun sz : Int32 × qa_M => f_X4_read_b16 sz.1 sz.2) (x1, h)
theorem s_X4_read_b16_loop {l : Launch} {g : qa_G} {d : Nat} {rz : Option Value} {hz : qa_M} (x1 : Int32) (h : qa_M) {z : (Int32 × qa_M)} (E : f_X4_read_b16_loop x1 h = some z) (G : (qg_i rz hz) z) : qt_At l g (yX4_read, cX4_read, 2, (some .int)) (d + 6) 0 0 16 [(0, .ref (g.1 + 20)), (1, .int x1)] [] h rz hz :=
  qlp_ind (fun sz : Int32 × qa_M => qt_At l g (yX4_read, cX4_read, 2, (some .int)) (d + 6) 0 0 16 [(0, .ref (g.1 + 20)), (1, .int sz.1)] [] sz.2 rz hz) (fun sz E => s_X4_read_b16 sz.1 sz.2 E G) (fun sz sz2 E ih => s_X4_read_b16 sz.1 sz.2 E ih) (x1, h) E
noncomputable def m_X4_read (h : qa_M) : Option (Int32 × qa_M) :=
  qbv (m_X3_clear h) (fun h4 : qa_M =>
  qbv (m_X9_begin h4) (fun h11 : qa_M =>
  qbd (0 : Int32) (fun v15 : Int32 =>
  f_X4_read_b16_loop v15 h11)))
set_option maxRecDepth 20000 in
theorem c_X4_read {l : Launch} {g : qa_G} {d : Nat} (h : qa_M) {c : Int32} {h1 : qa_M} (E : m_X4_read h = some (c, h1)) : qt_Met l g (yX4_read, cX4_read, 2, (some .int)) (d + 6) 0 [.ref (g.1 + 20)] h (some (.int c)) h1 := by
  refine qt_Met.of (plainFor_of_name (by decide)) (Nat.le_of_ble_eq_true rfl) ?_
  have G : qg_i (some (.int c)) h1 ((c, h1)) := ⟨rfl, rfl⟩
  unfold m_X4_read at E
  refine qt_aload_n 0 dX4_read_0 rfl rfl ?_
  refine qt_getS 14 (wl_20 h) fe_RX4_15 rfl dX4_read_1 ?_
  obtain ⟨h4, e4, E⟩ := qbv_el E
  refine qt_callVv (b2 := 0) [] (c_X3_clear h e4) cv_RX4_19 (wl_14 h) rfl rfl rfl (Nat.le_of_ble_eq_true rfl) (Nat.le_of_ble_eq_true rfl) dX4_read_4 ?_
  refine qt_aload_n 0 dX4_read_7 rfl rfl ?_
  refine qt_getS 1 (wl_20 h4) fe_RX4_9 rfl dX4_read_8 ?_
  obtain ⟨h11, e11, E⟩ := qbv_el E
  refine qt_callVv (b2 := 0) [] (c_X9_begin h4 e11) cv_RX4_24 (wl_1 h4) rfl rfl rfl (Nat.le_of_ble_eq_true rfl) (Nat.le_of_ble_eq_true rfl) dX4_read_11 ?_
  refine qt_iconst dX4_read_14 ci_0 ?_
  refine qt_istore_n (fun v15 => [(1, .int v15), (0, .ref (g.1 + 20))]) dX4_read_15 rfl (Nat.le_of_ble_eq_true rfl) (fun _ => rfl) E (fun v15 E => ?_)
  exact qt_sub _ [1, 0] rfl ((s_X4_read_b16_loop v15 h11 E G))
noncomputable def m_X3_copy (a0 : Nat) (a1 : Nat) (h : qa_M) : Option qa_M :=
  qbd (qw_I h a0 0 (h.1 a1 0)) (fun h5 : qa_M =>
  qbd (qw_I h5 a0 1 (h5.1 a1 1)) (fun h13 : qa_M =>
  qbd (qw_I h13 a0 2 (h13.1 a1 2)) (fun h21 : qa_M =>
  qbd (qw_I h21 a0 3 (h21.1 a1 3)) (fun h29 : qa_M =>
  qbd (qw_I h29 a0 4 (h29.1 a1 4)) (fun h37 : qa_M =>
  qbd (qw_I h37 a0 5 (h37.1 a1 5)) (fun h45 : qa_M =>
  qbd (qw_J h45 a0 6 (h45.2.1 a1 6)) (fun h53 : qa_M =>
  qbd (qw_J h53 a0 7 (h53.2.1 a1 7)) (fun h61 : qa_M =>
  qbd (qw_cI h61 (a1 + 1) 0 (a0 + 1) 0 8) (fun h76 : qa_M =>
  qbd (qw_cI h76 (a1 + 2) 0 (a0 + 2) 0 8) (fun h91 : qa_M =>
  qbd (qw_cJ h91 (a1 + 3) 0 (a0 + 3) 0 8) (fun h106 : qa_M =>
  qbd (qw_cJ h106 (a1 + 4) 0 (a0 + 4) 0 6) (fun h121 : qa_M =>
  qbd (qw_cI h121 (a1 + 5) 0 (a0 + 5) 0 4) (fun h135 : qa_M =>
  some h135)))))))))))))
set_option maxRecDepth 20000 in
theorem c_X3_copy {l : Launch} {g : qa_G} {d : Nat} (a0 : Nat) (a1 : Nat) (h : qa_M) (ha0 : qLand a0) (ha1 : qLand a1) {h1 : qa_M} (E : m_X3_copy a0 a1 h = some h1) : qt_Met l g (yX3_copy, cX3_copy, 2, none) (d + 1) 0 [.ref (g.1 + a0), .ref (g.1 + a1)] h none h1 := by
  refine qt_Met.of (plainFor_of_name (by decide)) (Nat.le_of_ble_eq_true rfl) ?_
  have G : qg_v none h1 (h1) := ⟨rfl, rfl⟩
  unfold m_X3_copy at E
  refine qt_aload_n 0 dX3_copy_0 rfl rfl ?_
  refine qt_aload_n 1 dX3_copy_1 rfl rfl ?_
  refine qt_getI (wl_Land_0 ha1 h) fe_RX3_28 rfl dX3_copy_2 ?_
  refine qt_putI (wl_Land_0 ha0 h) fd_RX3_28 rfl rfl rfl dX3_copy_5 E (fun h5 E => ?_)
  refine qt_aload_n 0 dX3_copy_8 rfl rfl ?_
  refine qt_aload_n 1 dX3_copy_9 rfl rfl ?_
  refine qt_getI (wl_Land_0 ha1 h5) fe_RX3_32 rfl dX3_copy_10 ?_
  refine qt_putI (wl_Land_0 ha0 h5) fd_RX3_32 rfl rfl rfl dX3_copy_13 E (fun h13 E => ?_)
  refine qt_aload_n 0 dX3_copy_16 rfl rfl ?_
  refine qt_aload_n 1 dX3_copy_17 rfl rfl ?_
  refine qt_getI (wl_Land_0 ha1 h13) fe_RX3_35 rfl dX3_copy_18 ?_
  refine qt_putI (wl_Land_0 ha0 h13) fd_RX3_35 rfl rfl rfl dX3_copy_21 E (fun h21 E => ?_)
  refine qt_aload_n 0 dX3_copy_24 rfl rfl ?_
  refine qt_aload_n 1 dX3_copy_25 rfl rfl ?_
  refine qt_getI (wl_Land_0 ha1 h21) fe_RX3_38 rfl dX3_copy_26 ?_
  refine qt_putI (wl_Land_0 ha0 h21) fd_RX3_38 rfl rfl rfl dX3_copy_29 E (fun h29 E => ?_)
  refine qt_aload_n 0 dX3_copy_32 rfl rfl ?_
  refine qt_aload_n 1 dX3_copy_33 rfl rfl ?_
  refine qt_getI (wl_Land_0 ha1 h29) fe_RX3_41 rfl dX3_copy_34 ?_
  refine qt_putI (wl_Land_0 ha0 h29) fd_RX3_41 rfl rfl rfl dX3_copy_37 E (fun h37 E => ?_)
  refine qt_aload_n 0 dX3_copy_40 rfl rfl ?_
  refine qt_aload_n 1 dX3_copy_41 rfl rfl ?_
  refine qt_getI (wl_Land_0 ha1 h37) fe_RX3_44 rfl dX3_copy_42 ?_
  refine qt_putI (wl_Land_0 ha0 h37) fd_RX3_44 rfl rfl rfl dX3_copy_45 E (fun h45 E => ?_)
  refine qt_aload_n 0 dX3_copy_48 rfl rfl ?_
  refine qt_aload_n 1 dX3_copy_49 rfl rfl ?_
  refine qt_getJ (wl_Land_0 ha1 h45) fe_RX3_47 rfl dX3_copy_50 ?_
  refine qt_putJ (wl_Land_0 ha0 h45) fd_RX3_47 rfl dX3_copy_53 E (fun h53 E => ?_)
  refine qt_aload_n 0 dX3_copy_56 rfl rfl ?_
  refine qt_aload_n 1 dX3_copy_57 rfl rfl ?_
  refine qt_getJ (wl_Land_0 ha1 h53) fe_RX3_51 rfl dX3_copy_58 ?_
  refine qt_putJ (wl_Land_0 ha0 h53) fd_RX3_51 rfl dX3_copy_61 E (fun h61 E => ?_)
  refine qt_aload_n 1 dX3_copy_64 rfl rfl ?_
  refine qt_getS (a1 + 1) (wl_Land_0 ha1 h61) fe_RX3_9 rfl dX3_copy_65 ?_
  refine qt_iconst dX3_copy_68 ci_0 ?_
  refine qt_aload_n 0 dX3_copy_69 rfl rfl ?_
  refine qt_getS (a0 + 1) (wl_Land_0 ha0 h61) fe_RX3_9 rfl dX3_copy_70 ?_
  refine qt_iconst dX3_copy_73 ci_0 ?_
  refine qt_bipush dX3_copy_74 cb_8 ?_
  refine qt_copyI 8 (wl_Land_1 ha1 h61) (wl_Land_1 ha0 h61) tb_776 rfl (Nat.le_of_ble_eq_true rfl) (Nat.le_of_ble_eq_true rfl) dX3_copy_76 (Nat.le_of_ble_eq_true rfl) E (fun h76 E => ?_)
  refine qt_aload_n 1 dX3_copy_79 rfl rfl ?_
  refine qt_getS (a1 + 2) (wl_Land_0 ha1 h76) fe_RX3_15 rfl dX3_copy_80 ?_
  refine qt_iconst dX3_copy_83 ci_0 ?_
  refine qt_aload_n 0 dX3_copy_84 rfl rfl ?_
  refine qt_getS (a0 + 2) (wl_Land_0 ha0 h76) fe_RX3_15 rfl dX3_copy_85 ?_
  refine qt_iconst dX3_copy_88 ci_0 ?_
  refine qt_bipush dX3_copy_89 cb_8 ?_
  refine qt_copyI 8 (wl_Land_2 ha1 h76) (wl_Land_2 ha0 h76) tb_776 rfl (Nat.le_of_ble_eq_true rfl) (Nat.le_of_ble_eq_true rfl) dX3_copy_91 (Nat.le_of_ble_eq_true rfl) E (fun h91 E => ?_)
  refine qt_aload_n 1 dX3_copy_94 rfl rfl ?_
  refine qt_getS (a1 + 3) (wl_Land_0 ha1 h91) fe_RX3_18 rfl dX3_copy_95 ?_
  refine qt_iconst dX3_copy_98 ci_0 ?_
  refine qt_aload_n 0 dX3_copy_99 rfl rfl ?_
  refine qt_getS (a0 + 3) (wl_Land_0 ha0 h91) fe_RX3_18 rfl dX3_copy_100 ?_
  refine qt_iconst dX3_copy_103 ci_0 ?_
  refine qt_bipush dX3_copy_104 cb_8 ?_
  refine qt_copyJ 8 (wl_Land_3 ha1 h91) (wl_Land_3 ha0 h91) tb_776 rfl (Nat.le_of_ble_eq_true rfl) (Nat.le_of_ble_eq_true rfl) dX3_copy_106 (Nat.le_of_ble_eq_true rfl) E (fun h106 E => ?_)
  refine qt_aload_n 1 dX3_copy_109 rfl rfl ?_
  refine qt_getS (a1 + 4) (wl_Land_0 ha1 h106) fe_RX3_22 rfl dX3_copy_110 ?_
  refine qt_iconst dX3_copy_113 ci_0 ?_
  refine qt_aload_n 0 dX3_copy_114 rfl rfl ?_
  refine qt_getS (a0 + 4) (wl_Land_0 ha0 h106) fe_RX3_22 rfl dX3_copy_115 ?_
  refine qt_iconst dX3_copy_118 ci_0 ?_
  refine qt_bipush dX3_copy_119 cb_6 ?_
  refine qt_copyJ 6 (wl_Land_4 ha1 h106) (wl_Land_4 ha0 h106) tb_776 rfl (Nat.le_of_ble_eq_true rfl) (Nat.le_of_ble_eq_true rfl) dX3_copy_121 (Nat.le_of_ble_eq_true rfl) E (fun h121 E => ?_)
  refine qt_aload_n 1 dX3_copy_124 rfl rfl ?_
  refine qt_getS (a1 + 5) (wl_Land_0 ha1 h121) fe_RX3_25 rfl dX3_copy_125 ?_
  refine qt_iconst dX3_copy_128 ci_0 ?_
  refine qt_aload_n 0 dX3_copy_129 rfl rfl ?_
  refine qt_getS (a0 + 5) (wl_Land_0 ha0 h121) fe_RX3_25 rfl dX3_copy_130 ?_
  refine qt_iconst dX3_copy_133 ci_0 ?_
  refine qt_iconst dX3_copy_134 ci_4 ?_
  refine qt_copyI 4 (wl_Land_5 ha1 h121) (wl_Land_5 ha0 h121) tb_776 rfl (Nat.le_of_ble_eq_true rfl) (Nat.le_of_ble_eq_true rfl) dX3_copy_135 (Nat.le_of_ble_eq_true rfl) E (fun h135 E => ?_)
  exact qt_vreturn rfl (Nat.le_of_ble_eq_true rfl) dX3_copy_138 E G
noncomputable def m_X11_land (h : qa_M) : Option (Int32 × qa_M) :=
  qbn (m_X4_read h) (fun (c4 : Int32) (h4 : qa_M) =>
  qbd c4 (fun v7 : Int32 =>
  qbd (qw_I h4 1 1 (0 : Int32)) (fun h13 : qa_M =>
  if v7 = 0 then (
   qbv (m_X3_copy 4 14 h13) (fun h36 : qa_M =>
   qbd (qw_I h36 3 1 (0 : Int32)) (fun h44 : qa_M =>
   qbd (qw_I h44 0 13 ((h44.1 0 13) + (1 : Int32))) (fun h54 : qa_M =>
   some (h54.1 4 2, h54)))))
  else (
   some (((-2 : Int32) - v7), h13)))))
set_option maxRecDepth 20000 in
theorem c_X11_land {l : Launch} {g : qa_G} {d : Nat} (h : qa_M) {c : Int32} {h1 : qa_M} (E : m_X11_land h = some (c, h1)) : qt_Met l g (yX11_land, cX11_land, 2, (some .int)) (d + 7) 0 [.ref (g.1 + 0)] h (some (.int c)) h1 := by
  refine qt_Met.of (plainFor_of_name (by decide)) (Nat.le_of_ble_eq_true rfl) ?_
  have G : qg_i (some (.int c)) h1 ((c, h1)) := ⟨rfl, rfl⟩
  unfold m_X11_land at E
  refine qt_aload_n 0 dX11_land_0 rfl rfl ?_
  refine qt_getS 20 (wl_0 h) fe_RX11_49 rfl dX11_land_1 ?_
  obtain ⟨c4, h4, e4, E⟩ := qbn_el E
  refine qt_callVi (b2 := 0) [] (c_X4_read h e4) cv_RX11_104 (wl_20 h) rfl rfl rfl (Nat.le_of_ble_eq_true rfl) (Nat.le_of_ble_eq_true rfl) dX11_land_4 ?_
  refine qt_istore_n (fun v7 => [(1, .int v7), (0, .ref (g.1 + 0))]) dX11_land_7 rfl (Nat.le_of_ble_eq_true rfl) (fun _ => rfl) E (fun v7 E => ?_)
  refine qt_aload_n 1 dX11_land_8 rfl rfl ?_
  refine qt_getS 1 (wl_0 h4) fe_RX11_10 rfl dX11_land_9 ?_
  refine qt_iconst dX11_land_12 ci_0 ?_
  refine qt_putI (wl_1 h4) fd_RX11_97 rfl rfl rfl dX11_land_13 E (fun h13 E => ?_)
  refine qt_iload_n 0 dX11_land_16 rfl rfl ?_
  refine qt_if_eq 25 dX11_land_17 (by decide) E (fun E => ?_) (fun E => ?_)
  · refine qt_aload_n 1 dX11_land_25 rfl rfl ?_
    refine qt_getS 3 (wl_0 h13) fe_RX11_19 rfl dX11_land_26 ?_
    refine qt_getS 4 (wl_3 h13) fe_RX11_108 rfl dX11_land_29 ?_
    refine qt_aload_n 1 dX11_land_32 rfl rfl ?_
    refine qt_getS 14 (wl_0 h13) fe_RX11_40 rfl dX11_land_33 ?_
    obtain ⟨h36, e36, E⟩ := qbv_el E
    refine qt_callVv (b2 := 0) [.ref (g.1 + 14)] (c_X3_copy 4 14 h13 (show qLand 4 by unfold qLand; decide) (show qLand 14 by unfold qLand; decide) e36) cv_RX11_111 (wl_4 h13) rfl rfl rfl (Nat.le_of_ble_eq_true rfl) (Nat.le_of_ble_eq_true rfl) dX11_land_36 ?_
    refine qt_aload_n 1 dX11_land_39 rfl rfl ?_
    refine qt_getS 3 (wl_0 h36) fe_RX11_19 rfl dX11_land_40 ?_
    refine qt_iconst dX11_land_43 ci_0 ?_
    refine qt_putI (wl_3 h36) fd_RX11_115 rfl rfl rfl dX11_land_44 E (fun h44 E => ?_)
    refine qt_aload_n 1 dX11_land_47 rfl rfl ?_
    refine qt_dup dX11_land_48 rfl ?_
    refine qt_getI (wl_0 h44) fe_RX11_92 rfl dX11_land_49 ?_
    refine qt_iconst dX11_land_52 ci_1 ?_
    refine qt_iadd dX11_land_53 ?_
    refine qt_putI (wl_0 h44) fd_RX11_92 rfl rfl rfl dX11_land_54 E (fun h54 E => ?_)
    refine qt_aload_n 1 dX11_land_57 rfl rfl ?_
    refine qt_getS 3 (wl_0 h54) fe_RX11_19 rfl dX11_land_58 ?_
    refine qt_getS 4 (wl_3 h54) fe_RX11_108 rfl dX11_land_61 ?_
    refine qt_getI (wl_4 h54) fe_RX11_118 rfl dX11_land_64 ?_
    exact qt_ireturn rfl (Nat.le_of_ble_eq_true rfl) dX11_land_67 E G
  · refine qt_bipush dX11_land_20 cb_m2 ?_
    refine qt_iload_n 0 dX11_land_22 rfl rfl ?_
    refine qt_isub dX11_land_23 ?_
    exact qt_ireturn rfl (Nat.le_of_ble_eq_true rfl) dX11_land_24 E G
noncomputable def m_X5_clear (a0 : Nat) (h : qa_M) : Option qa_M :=
  qbd (qw_I h a0 0 (0 : Int32)) (fun h2 : qa_M =>
  qbd (qw_I h2 a0 4 (0 : Int32)) (fun h7 : qa_M =>
  qbd (qw_I h7 a0 8 (0 : Int32)) (fun h12 : qa_M =>
  some h12)))
set_option maxRecDepth 20000 in
theorem c_X5_clear {l : Launch} {g : qa_G} {d : Nat} (a0 : Nat) (h : qa_M) (ha0 : qLaw a0) {h1 : qa_M} (E : m_X5_clear a0 h = some h1) : qt_Met l g (yX5_clear, cX5_clear, 1, none) d 0 [.ref (g.1 + a0)] h none h1 := by
  refine qt_Met.of (plainFor_of_name (by decide)) (Nat.le_of_ble_eq_true rfl) ?_
  have G : qg_v none h1 (h1) := ⟨rfl, rfl⟩
  unfold m_X5_clear at E
  refine qt_aload_n 0 dX5_clear_0 rfl rfl ?_
  refine qt_iconst dX5_clear_1 ci_0 ?_
  refine qt_putI (wl_Law_0 ha0 h) fd_RX5_39 rfl rfl rfl dX5_clear_2 E (fun h2 E => ?_)
  refine qt_aload_n 0 dX5_clear_5 rfl rfl ?_
  refine qt_iconst dX5_clear_6 ci_0 ?_
  refine qt_putI (wl_Law_0 ha0 h2) fd_RX5_43 rfl rfl rfl dX5_clear_7 E (fun h7 E => ?_)
  refine qt_aload_n 0 dX5_clear_10 rfl rfl ?_
  refine qt_iconst dX5_clear_11 ci_0 ?_
  refine qt_putI (wl_Law_0 ha0 h7) fd_RX5_46 rfl rfl rfl dX5_clear_12 E (fun h12 E => ?_)
  exact qt_vreturn rfl (Nat.le_of_ble_eq_true rfl) dX5_clear_15 E G
noncomputable def m_X5_addApart (a0 : Nat) (x1 : Int32) (x2 : Int32) (x3 : Int32) (h : qa_M) : Option qa_M :=
  if (12 : Int32) ≤ (h.1 a0 0) then (
   some h)
  else (
   qck (h.1 a0 0) 12 (
   qbd (qw_I h (a0 + 1) (h.1 a0 0).toNatClampNeg x1) (fun h18 : qa_M =>
   qck (h18.1 a0 0) 12 (
   qbd (qw_I h18 (a0 + 2) (h18.1 a0 0).toNatClampNeg x2) (fun h28 : qa_M =>
   qck (h28.1 a0 0) 12 (
   qbd (qw_I h28 (a0 + 3) (h28.1 a0 0).toNatClampNeg x3) (fun h38 : qa_M =>
   qbd (qw_I h38 a0 0 ((h38.1 a0 0) + (1 : Int32))) (fun h46 : qa_M =>
   some h46))))))))
set_option maxRecDepth 20000 in
theorem c_X5_addApart {l : Launch} {g : qa_G} {d : Nat} (a0 : Nat) (x1 : Int32) (x2 : Int32) (x3 : Int32) (h : qa_M) (ha0 : qLaw a0) {h1 : qa_M} (E : m_X5_addApart a0 x1 x2 x3 h = some h1) : qt_Met l g (yX5_addApart, cX5_addApart, 4, none) d 0 [.ref (g.1 + a0), .int x1, .int x2, .int x3] h none h1 := by
  refine qt_Met.of (plainFor_of_name (by decide)) (Nat.le_of_ble_eq_true rfl) ?_
  have G : qg_v none h1 (h1) := ⟨rfl, rfl⟩
  unfold m_X5_addApart at E
  refine qt_aload_n 0 dX5_addApart_0 rfl rfl ?_
  refine qt_getI (wl_Law_0 ha0 h) fe_RX5_39 rfl dX5_addApart_1 ?_
  refine qt_bipush dX5_addApart_4 cb_12 ?_
  refine qt_icmp_ge 49 dX5_addApart_6 (by decide) E (fun E => ?_) (fun E => ?_)
  · exact qt_vreturn rfl (Nat.le_of_ble_eq_true rfl) dX5_addApart_49 E G
  · refine qt_aload_n 0 dX5_addApart_9 rfl rfl ?_
    refine qt_getS (a0 + 1) (wl_Law_0 ha0 h) fe_RX5_11 rfl dX5_addApart_10 ?_
    refine qt_aload_n 0 dX5_addApart_13 rfl rfl ?_
    refine qt_getI (wl_Law_0 ha0 h) fe_RX5_39 rfl dX5_addApart_14 ?_
    refine qt_iload_n 1 dX5_addApart_17 rfl rfl ?_
    refine qt_iast (wl_Law_1 ha0 h) dX5_addApart_18 E (fun h18 E => ?_)
    refine qt_aload_n 0 dX5_addApart_19 rfl rfl ?_
    refine qt_getS (a0 + 2) (wl_Law_0 ha0 h18) fe_RX5_15 rfl dX5_addApart_20 ?_
    refine qt_aload_n 0 dX5_addApart_23 rfl rfl ?_
    refine qt_getI (wl_Law_0 ha0 h18) fe_RX5_39 rfl dX5_addApart_24 ?_
    refine qt_iload_n 2 dX5_addApart_27 rfl rfl ?_
    refine qt_iast (wl_Law_2 ha0 h18) dX5_addApart_28 E (fun h28 E => ?_)
    refine qt_aload_n 0 dX5_addApart_29 rfl rfl ?_
    refine qt_getS (a0 + 3) (wl_Law_0 ha0 h28) fe_RX5_18 rfl dX5_addApart_30 ?_
    refine qt_aload_n 0 dX5_addApart_33 rfl rfl ?_
    refine qt_getI (wl_Law_0 ha0 h28) fe_RX5_39 rfl dX5_addApart_34 ?_
    refine qt_iload_n 3 dX5_addApart_37 rfl rfl ?_
    refine qt_iast (wl_Law_3 ha0 h28) dX5_addApart_38 E (fun h38 E => ?_)
    refine qt_aload_n 0 dX5_addApart_39 rfl rfl ?_
    refine qt_dup dX5_addApart_40 rfl ?_
    refine qt_getI (wl_Law_0 ha0 h38) fe_RX5_39 rfl dX5_addApart_41 ?_
    refine qt_iconst dX5_addApart_44 ci_1 ?_
    refine qt_iadd dX5_addApart_45 ?_
    refine qt_putI (wl_Law_0 ha0 h38) fd_RX5_39 rfl rfl rfl dX5_addApart_46 E (fun h46 E => ?_)
    exact qt_vreturn rfl (Nat.le_of_ble_eq_true rfl) dX5_addApart_49 E G
noncomputable def m_X6_readApart (h : qa_M) : Option (Int32 × qa_M) :=
  qbn (m_X9_takeNumber (0 : Int32) (3 : Int32) h) (fun (c6 : Int32) (h6 : qa_M) =>
  if c6 = 0 then (
   some ((0 : Int32), h6))
  else (
   qbd (h6.1 1 6) (fun v21 : Int32 =>
   qbn (m_X9_takeNumber (0 : Int32) (3 : Int32) h6) (fun (c28 : Int32) (h28 : qa_M) =>
   if c28 = 0 then (
    some ((0 : Int32), h28))
   else (
    qbd (h28.1 1 6) (fun v43 : Int32 =>
    qbn (m_X9_takeNumber (1 : Int32) (5 : Int32) h28) (fun (c50 : Int32) (h50 : qa_M) =>
    if c50 = 0 then (
     some ((0 : Int32), h50))
    else (
     qnn (h50.2.2.1 21 1) (fun a59 =>
     qpr (a59 = 83 ∨ a59 = 92 ∨ a59 = 101 ∨ a59 = 110) (
     qbv (m_X5_addApart a59 v21 v43 (h50.1 1 6) h50) (fun h71 : qa_M =>
     some ((1 : Int32), h71))))))))))))
set_option maxRecDepth 20000 in
theorem c_X6_readApart {l : Launch} {g : qa_G} {d : Nat} (h : qa_M) {c : Int32} {h1 : qa_M} (E : m_X6_readApart h = some (c, h1)) : qt_Met l g (yX6_readApart, cX6_readApart, 3, (some .boolean)) (d + 2) 0 [.ref (g.1 + 21)] h (some (.int c)) h1 := by
  refine qt_Met.of (plainFor_of_name (by decide)) (Nat.le_of_ble_eq_true rfl) ?_
  have G : qg_i (some (.int c)) h1 ((c, h1)) := ⟨rfl, rfl⟩
  unfold m_X6_readApart at E
  refine qt_aload_n 0 dX6_readApart_0 rfl rfl ?_
  refine qt_getS 1 (wl_21 h) fe_RX6_9 rfl dX6_readApart_1 ?_
  refine qt_iconst dX6_readApart_4 ci_0 ?_
  refine qt_iconst dX6_readApart_5 ci_3 ?_
  obtain ⟨c6, h6, e6, E⟩ := qbn_el E
  refine qt_callVi (b2 := 0) [.int (0 : Int32), .int (3 : Int32)] (c_X9_takeNumber (0 : Int32) (3 : Int32) h e6) cv_RX6_65 (wl_1 h) rfl rfl rfl (Nat.le_of_ble_eq_true rfl) (Nat.le_of_ble_eq_true rfl) dX6_readApart_6 ?_
  refine qt_if_ne 14 dX6_readApart_9 (by decide) E (fun E => ?_) (fun E => ?_)
  · refine qt_aload_n 0 dX6_readApart_14 rfl rfl ?_
    refine qt_getS 1 (wl_21 h6) fe_RX6_9 rfl dX6_readApart_15 ?_
    refine qt_getI (wl_1 h6) fe_RX6_69 rfl dX6_readApart_18 ?_
    refine qt_istore_n (fun v21 => [(1, .int v21), (0, .ref (g.1 + 21))]) dX6_readApart_21 rfl (Nat.le_of_ble_eq_true rfl) (fun _ => rfl) E (fun v21 E => ?_)
    refine qt_aload_n 1 dX6_readApart_22 rfl rfl ?_
    refine qt_getS 1 (wl_21 h6) fe_RX6_9 rfl dX6_readApart_23 ?_
    refine qt_iconst dX6_readApart_26 ci_0 ?_
    refine qt_iconst dX6_readApart_27 ci_3 ?_
    obtain ⟨c28, h28, e28, E⟩ := qbn_el E
    refine qt_callVi (b2 := 0) [.int (0 : Int32), .int (3 : Int32)] (c_X9_takeNumber (0 : Int32) (3 : Int32) h6 e28) cv_RX6_65 (wl_1 h6) rfl rfl rfl (Nat.le_of_ble_eq_true rfl) (Nat.le_of_ble_eq_true rfl) dX6_readApart_28 ?_
    refine qt_if_ne 36 dX6_readApart_31 (by decide) E (fun E => ?_) (fun E => ?_)
    · refine qt_aload_n 1 dX6_readApart_36 rfl rfl ?_
      refine qt_getS 1 (wl_21 h28) fe_RX6_9 rfl dX6_readApart_37 ?_
      refine qt_getI (wl_1 h28) fe_RX6_69 rfl dX6_readApart_40 ?_
      refine qt_istore_n (fun v43 => [(2, .int v43), (1, .int v21), (0, .ref (g.1 + 21))]) dX6_readApart_43 rfl (Nat.le_of_ble_eq_true rfl) (fun _ => rfl) E (fun v43 E => ?_)
      refine qt_aload_n 2 dX6_readApart_44 rfl rfl ?_
      refine qt_getS 1 (wl_21 h28) fe_RX6_9 rfl dX6_readApart_45 ?_
      refine qt_iconst dX6_readApart_48 ci_1 ?_
      refine qt_iconst dX6_readApart_49 ci_5 ?_
      obtain ⟨c50, h50, e50, E⟩ := qbn_el E
      refine qt_callVi (b2 := 0) [.int (1 : Int32), .int (5 : Int32)] (c_X9_takeNumber (1 : Int32) (5 : Int32) h28 e50) cv_RX6_65 (wl_1 h28) rfl rfl rfl (Nat.le_of_ble_eq_true rfl) (Nat.le_of_ble_eq_true rfl) dX6_readApart_50 ?_
      refine qt_if_ne 58 dX6_readApart_53 (by decide) E (fun E => ?_) (fun E => ?_)
      · refine qt_aload_n 2 dX6_readApart_58 rfl rfl ?_
        refine qt_getR (wl_21 h50) fe_RX6_15 rfl dX6_readApart_59 ?_
        obtain ⟨a59, q59, E⟩ := qnn_el E
        refine qt_nn q59 ?_
        obtain ⟨p59, E⟩ := qpr_el E
        refine qt_iload_n 1 dX6_readApart_62 rfl rfl ?_
        refine qt_iload_n 0 dX6_readApart_63 rfl rfl ?_
        refine qt_aload_n 2 dX6_readApart_64 rfl rfl ?_
        refine qt_getS 1 (wl_21 h50) fe_RX6_9 rfl dX6_readApart_65 ?_
        refine qt_getI (wl_1 h50) fe_RX6_69 rfl dX6_readApart_68 ?_
        obtain ⟨h71, e71, E⟩ := qbv_el E
        refine qt_callVv (b2 := 0) [.int v21, .int v43, .int (h50.1 1 6)] (c_X5_addApart a59 v21 v43 (h50.1 1 6) h50 p59 e71) cv_RX6_72 (wl_Law_0 p59 h50) rfl rfl rfl (Nat.le_of_ble_eq_true rfl) (Nat.le_of_ble_eq_true rfl) dX6_readApart_71 ?_
        refine qt_iconst dX6_readApart_74 ci_1 ?_
        exact qt_zreturn rfl (Or.inr rfl) (Nat.le_of_ble_eq_true rfl) dX6_readApart_75 E G
      · refine qt_iconst dX6_readApart_56 ci_0 ?_
        exact qt_zreturn rfl (Or.inl rfl) (Nat.le_of_ble_eq_true rfl) dX6_readApart_57 E G
    · refine qt_iconst dX6_readApart_34 ci_0 ?_
      exact qt_zreturn rfl (Or.inl rfl) (Nat.le_of_ble_eq_true rfl) dX6_readApart_35 E G
  · refine qt_iconst dX6_readApart_12 ci_0 ?_
    exact qt_zreturn rfl (Or.inl rfl) (Nat.le_of_ble_eq_true rfl) dX6_readApart_13 E G
noncomputable def m_X5_beginBar (a0 : Nat) (x1 : Int32) (h : qa_M) : Option qa_M :=
  if (12 : Int32) ≤ (h.1 a0 4) then (
   some h)
  else (
   qck (h.1 a0 4) 12 (
   qbd (qw_I h (a0 + 4) (h.1 a0 4).toNatClampNeg x1) (fun h18 : qa_M =>
   qck (h18.1 a0 4) 13 (
   qbd (qw_I h18 (a0 + 5) (h18.1 a0 4).toNatClampNeg (h18.1 a0 8)) (fun h31 : qa_M =>
   qbd (qw_I h31 a0 4 ((h31.1 a0 4) + (1 : Int32))) (fun h39 : qa_M =>
   some h39))))))
set_option maxRecDepth 20000 in
theorem c_X5_beginBar {l : Launch} {g : qa_G} {d : Nat} (a0 : Nat) (x1 : Int32) (h : qa_M) (ha0 : qLaw a0) {h1 : qa_M} (E : m_X5_beginBar a0 x1 h = some h1) : qt_Met l g (yX5_beginBar, cX5_beginBar, 2, none) d 0 [.ref (g.1 + a0), .int x1] h none h1 := by
  refine qt_Met.of (plainFor_of_name (by decide)) (Nat.le_of_ble_eq_true rfl) ?_
  have G : qg_v none h1 (h1) := ⟨rfl, rfl⟩
  unfold m_X5_beginBar at E
  refine qt_aload_n 0 dX5_beginBar_0 rfl rfl ?_
  refine qt_getI (wl_Law_0 ha0 h) fe_RX5_43 rfl dX5_beginBar_1 ?_
  refine qt_bipush dX5_beginBar_4 cb_12 ?_
  refine qt_icmp_ge 42 dX5_beginBar_6 (by decide) E (fun E => ?_) (fun E => ?_)
  · exact qt_vreturn rfl (Nat.le_of_ble_eq_true rfl) dX5_beginBar_42 E G
  · refine qt_aload_n 0 dX5_beginBar_9 rfl rfl ?_
    refine qt_getS (a0 + 4) (wl_Law_0 ha0 h) fe_RX5_21 rfl dX5_beginBar_10 ?_
    refine qt_aload_n 0 dX5_beginBar_13 rfl rfl ?_
    refine qt_getI (wl_Law_0 ha0 h) fe_RX5_43 rfl dX5_beginBar_14 ?_
    refine qt_iload_n 1 dX5_beginBar_17 rfl rfl ?_
    refine qt_iast (wl_Law_4 ha0 h) dX5_beginBar_18 E (fun h18 E => ?_)
    refine qt_aload_n 0 dX5_beginBar_19 rfl rfl ?_
    refine qt_getS (a0 + 5) (wl_Law_0 ha0 h18) fe_RX5_24 rfl dX5_beginBar_20 ?_
    refine qt_aload_n 0 dX5_beginBar_23 rfl rfl ?_
    refine qt_getI (wl_Law_0 ha0 h18) fe_RX5_43 rfl dX5_beginBar_24 ?_
    refine qt_aload_n 0 dX5_beginBar_27 rfl rfl ?_
    refine qt_getI (wl_Law_0 ha0 h18) fe_RX5_46 rfl dX5_beginBar_28 ?_
    refine qt_iast (wl_Law_5 ha0 h18) dX5_beginBar_31 E (fun h31 E => ?_)
    refine qt_aload_n 0 dX5_beginBar_32 rfl rfl ?_
    refine qt_dup dX5_beginBar_33 rfl ?_
    refine qt_getI (wl_Law_0 ha0 h31) fe_RX5_43 rfl dX5_beginBar_34 ?_
    refine qt_iconst dX5_beginBar_37 ci_1 ?_
    refine qt_iadd dX5_beginBar_38 ?_
    refine qt_putI (wl_Law_0 ha0 h31) fd_RX5_43 rfl rfl rfl dX5_beginBar_39 E (fun h39 E => ?_)
    exact qt_vreturn rfl (Nat.le_of_ble_eq_true rfl) dX5_beginBar_42 E G
noncomputable def m_X6_readBarred (h : qa_M) : Option (Int32 × qa_M) :=
  qbn (m_X9_takeNumber (0 : Int32) (3 : Int32) h) (fun (c6 : Int32) (h6 : qa_M) =>
  if c6 = 0 then (
   some ((0 : Int32), h6))
  else (
   qnn (h6.2.2.1 21 1) (fun a15 =>
   qpr (a15 = 83 ∨ a15 = 92 ∨ a15 = 101 ∨ a15 = 110) (
   qbv (m_X5_beginBar a15 (h6.1 1 6) h6) (fun h25 : qa_M =>
   some ((1 : Int32), h25))))))
set_option maxRecDepth 20000 in
theorem c_X6_readBarred {l : Launch} {g : qa_G} {d : Nat} (h : qa_M) {c : Int32} {h1 : qa_M} (E : m_X6_readBarred h = some (c, h1)) : qt_Met l g (yX6_readBarred, cX6_readBarred, 1, (some .boolean)) (d + 2) 0 [.ref (g.1 + 21)] h (some (.int c)) h1 := by
  refine qt_Met.of (plainFor_of_name (by decide)) (Nat.le_of_ble_eq_true rfl) ?_
  have G : qg_i (some (.int c)) h1 ((c, h1)) := ⟨rfl, rfl⟩
  unfold m_X6_readBarred at E
  refine qt_aload_n 0 dX6_readBarred_0 rfl rfl ?_
  refine qt_getS 1 (wl_21 h) fe_RX6_9 rfl dX6_readBarred_1 ?_
  refine qt_iconst dX6_readBarred_4 ci_0 ?_
  refine qt_iconst dX6_readBarred_5 ci_3 ?_
  obtain ⟨c6, h6, e6, E⟩ := qbn_el E
  refine qt_callVi (b2 := 0) [.int (0 : Int32), .int (3 : Int32)] (c_X9_takeNumber (0 : Int32) (3 : Int32) h e6) cv_RX6_65 (wl_1 h) rfl rfl rfl (Nat.le_of_ble_eq_true rfl) (Nat.le_of_ble_eq_true rfl) dX6_readBarred_6 ?_
  refine qt_if_ne 14 dX6_readBarred_9 (by decide) E (fun E => ?_) (fun E => ?_)
  · refine qt_aload_n 0 dX6_readBarred_14 rfl rfl ?_
    refine qt_getR (wl_21 h6) fe_RX6_15 rfl dX6_readBarred_15 ?_
    obtain ⟨a15, q15, E⟩ := qnn_el E
    refine qt_nn q15 ?_
    obtain ⟨p15, E⟩ := qpr_el E
    refine qt_aload_n 0 dX6_readBarred_18 rfl rfl ?_
    refine qt_getS 1 (wl_21 h6) fe_RX6_9 rfl dX6_readBarred_19 ?_
    refine qt_getI (wl_1 h6) fe_RX6_69 rfl dX6_readBarred_22 ?_
    obtain ⟨h25, e25, E⟩ := qbv_el E
    refine qt_callVv (b2 := 0) [.int (h6.1 1 6)] (c_X5_beginBar a15 (h6.1 1 6) h6 p15 e25) cv_RX6_76 (wl_Law_0 p15 h6) rfl rfl rfl (Nat.le_of_ble_eq_true rfl) (Nat.le_of_ble_eq_true rfl) dX6_readBarred_25 ?_
    refine qt_iconst dX6_readBarred_28 ci_1 ?_
    exact qt_zreturn rfl (Or.inr rfl) (Nat.le_of_ble_eq_true rfl) dX6_readBarred_29 E G
  · refine qt_iconst dX6_readBarred_12 ci_0 ?_
    exact qt_zreturn rfl (Or.inl rfl) (Nat.le_of_ble_eq_true rfl) dX6_readBarred_13 E G
noncomputable def m_X6_isRoomForPart (h : qa_M) : Option (Int32 × qa_M) :=
  if (h.1 21 2) < (60 : Int32) then (
   qbd (qw_I h 21 2 ((h.1 21 2) + (1 : Int32))) (fun h32 : qa_M =>
   some ((1 : Int32), h32)))
  else (
   qbn (m_X9_failAt (h.1 1 4) (3 : Int32) h) (fun (c21 : Int32) (h21 : qa_M) =>
   qpr (c21 = 0 ∨ c21 = 1) (
   some (c21, h21))))
set_option maxRecDepth 20000 in
theorem c_X6_isRoomForPart {l : Launch} {g : qa_G} {d : Nat} (h : qa_M) {c : Int32} {h1 : qa_M} (E : m_X6_isRoomForPart h = some (c, h1)) : qt_Met l g (yX6_isRoomForPart, cX6_isRoomForPart, 1, (some .boolean)) (d + 1) 0 [.ref (g.1 + 21)] h (some (.int c)) h1 := by
  refine qt_Met.of (plainFor_of_name (by decide)) (Nat.le_of_ble_eq_true rfl) ?_
  have G : qg_i (some (.int c)) h1 ((c, h1)) := ⟨rfl, rfl⟩
  unfold m_X6_isRoomForPart at E
  refine qt_aload_n 0 dX6_isRoomForPart_0 rfl rfl ?_
  refine qt_getI (wl_21 h) fe_RX6_24 rfl dX6_isRoomForPart_1 ?_
  refine qt_bipush dX6_isRoomForPart_4 cb_60 ?_
  refine qt_icmp_lt 25 dX6_isRoomForPart_6 (by decide) E (fun E => ?_) (fun E => ?_)
  · refine qt_aload_n 0 dX6_isRoomForPart_25 rfl rfl ?_
    refine qt_dup dX6_isRoomForPart_26 rfl ?_
    refine qt_getI (wl_21 h) fe_RX6_24 rfl dX6_isRoomForPart_27 ?_
    refine qt_iconst dX6_isRoomForPart_30 ci_1 ?_
    refine qt_iadd dX6_isRoomForPart_31 ?_
    refine qt_putI (wl_21 h) fd_RX6_24 rfl rfl rfl dX6_isRoomForPart_32 E (fun h32 E => ?_)
    refine qt_iconst dX6_isRoomForPart_35 ci_1 ?_
    exact qt_zreturn rfl (Or.inr rfl) (Nat.le_of_ble_eq_true rfl) dX6_isRoomForPart_36 E G
  · refine qt_aload_n 0 dX6_isRoomForPart_9 rfl rfl ?_
    refine qt_getS 1 (wl_21 h) fe_RX6_9 rfl dX6_isRoomForPart_10 ?_
    refine qt_aload_n 0 dX6_isRoomForPart_13 rfl rfl ?_
    refine qt_getS 1 (wl_21 h) fe_RX6_9 rfl dX6_isRoomForPart_14 ?_
    refine qt_getI (wl_1 h) fe_RX6_117 rfl dX6_isRoomForPart_17 ?_
    refine qt_iconst dX6_isRoomForPart_20 ci_3 ?_
    obtain ⟨c21, h21, e21, E⟩ := qbn_el E
    refine qt_callVi (b2 := 0) [.int (h.1 1 4), .int (3 : Int32)] (c_X9_failAt (h.1 1 4) (3 : Int32) h e21) cv_RX6_120 (wl_1 h) rfl rfl rfl (Nat.le_of_ble_eq_true rfl) (Nat.le_of_ble_eq_true rfl) dX6_isRoomForPart_21 ?_
    obtain ⟨z24, E⟩ := qpr_el E
    exact qt_zreturn rfl z24 (Nat.le_of_ble_eq_true rfl) dX6_isRoomForPart_24 E G
noncomputable def m_X5_emit (a0 : Nat) (x1 : Int32) (h : qa_M) : Option qa_M :=
  if (400 : Int32) ≤ (h.1 a0 8) then (
   some h)
  else (
   qck (h.1 a0 8) 400 (
   qbd (qw_I h (a0 + 6) (h.1 a0 8).toNatClampNeg x1) (fun h21 : qa_M =>
   qbd (qw_I h21 a0 8 ((h21.1 a0 8) + (1 : Int32))) (fun h29 : qa_M =>
   some h29))))
set_option maxRecDepth 20000 in
theorem c_X5_emit {l : Launch} {g : qa_G} {d : Nat} (a0 : Nat) (x1 : Int32) (h : qa_M) (ha0 : qLaw a0) {h1 : qa_M} (E : m_X5_emit a0 x1 h = some h1) : qt_Met l g (yX5_emit, cX5_emit, 2, none) d 0 [.ref (g.1 + a0), .int x1] h none h1 := by
  refine qt_Met.of (plainFor_of_name (by decide)) (Nat.le_of_ble_eq_true rfl) ?_
  have G : qg_v none h1 (h1) := ⟨rfl, rfl⟩
  unfold m_X5_emit at E
  refine qt_aload_n 0 dX5_emit_0 rfl rfl ?_
  refine qt_getI (wl_Law_0 ha0 h) fe_RX5_46 rfl dX5_emit_1 ?_
  refine qt_aload_n 0 dX5_emit_4 rfl rfl ?_
  refine qt_getS (a0 + 6) (wl_Law_0 ha0 h) fe_RX5_29 rfl dX5_emit_5 ?_
  refine qt_alen (v := (400 : Int32)) (by decide) (wl_Law_6 ha0 h) cn_400 dX5_emit_8 ?_
  refine qt_icmp_ge 32 dX5_emit_9 (by decide) E (fun E => ?_) (fun E => ?_)
  · exact qt_vreturn rfl (Nat.le_of_ble_eq_true rfl) dX5_emit_32 E G
  · refine qt_aload_n 0 dX5_emit_12 rfl rfl ?_
    refine qt_getS (a0 + 6) (wl_Law_0 ha0 h) fe_RX5_29 rfl dX5_emit_13 ?_
    refine qt_aload_n 0 dX5_emit_16 rfl rfl ?_
    refine qt_getI (wl_Law_0 ha0 h) fe_RX5_46 rfl dX5_emit_17 ?_
    refine qt_iload_n 1 dX5_emit_20 rfl rfl ?_
    refine qt_iast (wl_Law_6 ha0 h) dX5_emit_21 E (fun h21 E => ?_)
    refine qt_aload_n 0 dX5_emit_22 rfl rfl ?_
    refine qt_dup dX5_emit_23 rfl ?_
    refine qt_getI (wl_Law_0 ha0 h21) fe_RX5_46 rfl dX5_emit_24 ?_
    refine qt_iconst dX5_emit_27 ci_1 ?_
    refine qt_iadd dX5_emit_28 ?_
    refine qt_putI (wl_Law_0 ha0 h21) fd_RX5_46 rfl rfl rfl dX5_emit_29 E (fun h29 E => ?_)
    exact qt_vreturn rfl (Nat.le_of_ble_eq_true rfl) dX5_emit_32 E G
