noncomputable def f_X12_worstOf_b42 (x1 : Int32) (x3 : Int32) (s0 : Int32) (h : qa_M) : Option ((Int32 × Int32 × Int32 × qa_M) ⊕ (Int32 × qa_M)) :=
  qbd s0 (fun v42 : Int32 =>
  qbd (x3 + (1 : Int32)) (fun v43 : Int32 =>
  some (.inl (x1, v42, v43, h))))
set_option maxRecDepth 20000 in
theorem s_X12_worstOf_b42 {l : Launch} {g : qa_G} {d : Nat} {rz : Option Value} {hz : qa_M} (x1 : Int32) (x3 : Int32) (s0 : Int32) (h : qa_M) {z : ((Int32 × Int32 × Int32 × qa_M) ⊕ (Int32 × qa_M))} (E : f_X12_worstOf_b42 x1 x3 s0 h = some z) (G : (Sum.elim (fun (sz : Int32 × Int32 × Int32 × qa_M) => qt_At l g (yX12_worstOf, cX12_worstOf, 4, (some .int)) (d + 1) 0 0 4 [(0, .ref (g.1 + 119)), (1, .int sz.1), (2, .int sz.2.1), (3, .int sz.2.2.1)] [] sz.2.2.2 rz hz) (qg_i rz hz)) z) : qt_At l g (yX12_worstOf, cX12_worstOf, 4, (some .int)) (d + 1) 0 0 42 [(0, .ref (g.1 + 119)), (1, .int x1), (3, .int x3)] [.int s0] h rz hz := by
  unfold f_X12_worstOf_b42 at E
  refine qt_istore_n (fun v42 => [(2, .int v42), (0, .ref (g.1 + 119)), (1, .int x1), (3, .int x3)]) dX12_worstOf_42 rfl (Nat.le_of_ble_eq_true rfl) (fun _ => rfl) E (fun v42 E => ?_)
  refine qt_iinc 3 (fun v43 => [(3, .int v43), (2, .int v42), (0, .ref (g.1 + 119)), (1, .int x1)]) dX12_worstOf_43 rfl ci_1 (Nat.le_of_ble_eq_true rfl) (fun _ => rfl) E (fun v43 E => ?_)
  refine qt_goto 4 dX12_worstOf_46 (by decide) ?_
  cases E
  exact qt_sub _ [2, 3, 1, 0] rfl (G)
noncomputable def f_X12_worstOf_b4 (x1 : Int32) (x2 : Int32) (x3 : Int32) (h : qa_M) : Option ((Int32 × Int32 × Int32 × qa_M) ⊕ (Int32 × qa_M)) :=
  if (16 : Int32) ≤ x3 then (
   qup (some (x2, h)))
  else (
   qbn (m_X12_cell x1 x3 x1 x3 h) (fun (c18 : Int32) (h18 : qa_M) =>
   qck c18 16384 (
   if (h18.1 159 c18.toNatClampNeg) ≤ x2 then (
    f_X12_worstOf_b42 x1 x3 x2 h18)
   else (
    qbn (m_X12_cell x1 x3 x1 x3 h18) (fun (c34 : Int32) (h34 : qa_M) =>
    qck c34 16384 (
    f_X12_worstOf_b42 x1 x3 (h34.1 159 c34.toNatClampNeg) h34))))))
set_option maxRecDepth 20000 in
theorem s_X12_worstOf_b4 {l : Launch} {g : qa_G} {d : Nat} {rz : Option Value} {hz : qa_M} (x1 : Int32) (x2 : Int32) (x3 : Int32) (h : qa_M) {z : ((Int32 × Int32 × Int32 × qa_M) ⊕ (Int32 × qa_M))} (E : f_X12_worstOf_b4 x1 x2 x3 h = some z) (G : (Sum.elim (fun (sz : Int32 × Int32 × Int32 × qa_M) => qt_At l g (yX12_worstOf, cX12_worstOf, 4, (some .int)) (d + 1) 0 0 4 [(0, .ref (g.1 + 119)), (1, .int sz.1), (2, .int sz.2.1), (3, .int sz.2.2.1)] [] sz.2.2.2 rz hz) (qg_i rz hz)) z) : qt_At l g (yX12_worstOf, cX12_worstOf, 4, (some .int)) (d + 1) 0 0 4 [(0, .ref (g.1 + 119)), (1, .int x1), (2, .int x2), (3, .int x3)] [] h rz hz := by
  unfold f_X12_worstOf_b4 at E
  refine qt_iload_n 3 dX12_worstOf_4 rfl rfl ?_
  refine qt_bipush dX12_worstOf_5 cb_16 ?_
  refine qt_icmp_ge 49 dX12_worstOf_7 (by decide) E (fun E => ?_) (fun E => ?_)
  · refine qt_iload_n 2 dX12_worstOf_49 rfl rfl ?_
    obtain ⟨z0_, E, G⟩ := qup_g E G
    exact qt_ireturn rfl (Nat.le_of_ble_eq_true rfl) dX12_worstOf_50 E G
  · refine qt_aload_n 0 dX12_worstOf_10 rfl rfl ?_
    refine qt_getS 159 (wl_119 h) fe_RX12_133 rfl dX12_worstOf_11 ?_
    refine qt_iload_n 1 dX12_worstOf_14 rfl rfl ?_
    refine qt_iload_n 3 dX12_worstOf_15 rfl rfl ?_
    refine qt_iload_n 1 dX12_worstOf_16 rfl rfl ?_
    refine qt_iload_n 3 dX12_worstOf_17 rfl rfl ?_
    obtain ⟨c18, h18, e18, E⟩ := qbn_el E
    refine qt_callSi (b2 := 0) [.int x1, .int x3, .int x1, .int x3] (c_X12_cell x1 x3 x1 x3 h e18) cv_RX12_489 rfl (Nat.le_of_ble_eq_true rfl) (Nat.le_of_ble_eq_true rfl) dX12_worstOf_18 ?_
    refine qt_iald (wl_159 h18) dX12_worstOf_21 E (fun E => ?_)
    refine qt_iload_n 2 dX12_worstOf_22 rfl rfl ?_
    refine qt_icmp_le 41 dX12_worstOf_23 (by decide) E (fun E => ?_) (fun E => ?_)
    · refine qt_iload_n 2 dX12_worstOf_41 rfl rfl ?_
      exact qt_sub _ [0, 1, 3] rfl ((s_X12_worstOf_b42 x1 x3 x2 h18 E G))
    · refine qt_aload_n 0 dX12_worstOf_26 rfl rfl ?_
      refine qt_getS 159 (wl_119 h18) fe_RX12_133 rfl dX12_worstOf_27 ?_
      refine qt_iload_n 1 dX12_worstOf_30 rfl rfl ?_
      refine qt_iload_n 3 dX12_worstOf_31 rfl rfl ?_
      refine qt_iload_n 1 dX12_worstOf_32 rfl rfl ?_
      refine qt_iload_n 3 dX12_worstOf_33 rfl rfl ?_
      obtain ⟨c34, h34, e34, E⟩ := qbn_el E
      refine qt_callSi (b2 := 0) [.int x1, .int x3, .int x1, .int x3] (c_X12_cell x1 x3 x1 x3 h18 e34) cv_RX12_489 rfl (Nat.le_of_ble_eq_true rfl) (Nat.le_of_ble_eq_true rfl) dX12_worstOf_34 ?_
      refine qt_iald (wl_159 h34) dX12_worstOf_37 E (fun E => ?_)
      refine qt_goto 42 dX12_worstOf_38 (by decide) ?_
      exact qt_sub _ [0, 1, 3] rfl ((s_X12_worstOf_b42 x1 x3 (h34.1 159 c34.toNatClampNeg) h34 E G))
noncomputable def f_X12_worstOf_b4_loop (x1 : Int32) (x2 : Int32) (x3 : Int32) (h : qa_M) : Option (Int32 × qa_M) := qlp (fun sz : Int32 × Int32 × Int32 × qa_M => f_X12_worstOf_b4 sz.1 sz.2.1 sz.2.2.1 sz.2.2.2) (x1, x2, x3, h)
theorem s_X12_worstOf_b4_loop {l : Launch} {g : qa_G} {d : Nat} {rz : Option Value} {hz : qa_M} (x1 : Int32) (x2 : Int32) (x3 : Int32) (h : qa_M) {z : (Int32 × qa_M)} (E : f_X12_worstOf_b4_loop x1 x2 x3 h = some z) (G : (qg_i rz hz) z) : qt_At l g (yX12_worstOf, cX12_worstOf, 4, (some .int)) (d + 1) 0 0 4 [(0, .ref (g.1 + 119)), (1, .int x1), (2, .int x2), (3, .int x3)] [] h rz hz :=
  qlp_ind (fun sz : Int32 × Int32 × Int32 × qa_M => qt_At l g (yX12_worstOf, cX12_worstOf, 4, (some .int)) (d + 1) 0 0 4 [(0, .ref (g.1 + 119)), (1, .int sz.1), (2, .int sz.2.1), (3, .int sz.2.2.1)] [] sz.2.2.2 rz hz) (fun sz E => s_X12_worstOf_b4 sz.1 sz.2.1 sz.2.2.1 sz.2.2.2 E G) (fun sz sz2 E ih => s_X12_worstOf_b4 sz.1 sz.2.1 sz.2.2.1 sz.2.2.2 E ih) (x1, x2, x3, h) E
noncomputable def m_X12_worstOf (x1 : Int32) (h : qa_M) : Option (Int32 × qa_M) :=
  qbd (0 : Int32) (fun v1 : Int32 =>
  qbd (0 : Int32) (fun v3 : Int32 =>
  f_X12_worstOf_b4_loop x1 v1 v3 h))
set_option maxRecDepth 20000 in
theorem c_X12_worstOf {l : Launch} {g : qa_G} {d : Nat} (x1 : Int32) (h : qa_M) {c : Int32} {h1 : qa_M} (E : m_X12_worstOf x1 h = some (c, h1)) : qt_Met l g (yX12_worstOf, cX12_worstOf, 4, (some .int)) (d + 1) 0 [.ref (g.1 + 119), .int x1] h (some (.int c)) h1 := by
  refine qt_Met.of (plainFor_of_name (by decide)) (Nat.le_of_ble_eq_true rfl) ?_
  have G : qg_i (some (.int c)) h1 ((c, h1)) := ⟨rfl, rfl⟩
  unfold m_X12_worstOf at E
  refine qt_iconst dX12_worstOf_0 ci_0 ?_
  refine qt_istore_n (fun v1 => [(2, .int v1), (0, .ref (g.1 + 119)), (1, .int x1)]) dX12_worstOf_1 rfl (Nat.le_of_ble_eq_true rfl) (fun _ => rfl) E (fun v1 E => ?_)
  refine qt_iconst dX12_worstOf_2 ci_0 ?_
  refine qt_istore_n (fun v3 => [(3, .int v3), (2, .int v1), (0, .ref (g.1 + 119)), (1, .int x1)]) dX12_worstOf_3 rfl (Nat.le_of_ble_eq_true rfl) (fun _ => rfl) E (fun v3 E => ?_)
  exact qt_sub _ [2, 3, 1, 0] rfl ((s_X12_worstOf_b4_loop x1 v1 v3 h E G))
noncomputable def m_X12_worst (x1 : Int32) (x2 : Int32) (h : qa_M) : Option (Int32 × qa_M) :=
  qbn (m_X12_isSet x1 h) (fun (c2 : Int32) (h2 : qa_M) =>
  if c2 = 0 then (
   some ((-1 : Int32), h2))
  else (
   qbn (m_X12_isHill x2 h2) (fun (c10 : Int32) (h10 : qa_M) =>
   if c10 = 0 then (
    some ((-1 : Int32), h10))
   else (
    qbv (m_X12_fillsBoth x1 h10) (fun h20 : qa_M =>
    qbn (m_X12_worstOf x2 h20) (fun (c25 : Int32) (h25 : qa_M) =>
    some (c25, h25)))))))
set_option maxRecDepth 20000 in
theorem c_X12_worst {l : Launch} {g : qa_G} {d : Nat} (x1 : Int32) (x2 : Int32) (h : qa_M) {c : Int32} {h1 : qa_M} (E : m_X12_worst x1 x2 h = some (c, h1)) : qt_Met l g (yX12_worst, cX12_worst, 3, (some .int)) (d + 8) 0 [.ref (g.1 + 119), .int x1, .int x2] h (some (.int c)) h1 := by
  refine qt_Met.of (plainFor_of_name (by decide)) (Nat.le_of_ble_eq_true rfl) ?_
  have G : qg_i (some (.int c)) h1 ((c, h1)) := ⟨rfl, rfl⟩
  unfold m_X12_worst at E
  refine qt_aload_n 0 dX12_worst_0 rfl rfl ?_
  refine qt_iload_n 1 dX12_worst_1 rfl rfl ?_
  obtain ⟨c2, h2, e2, E⟩ := qbn_el E
  refine qt_callVi (b2 := 0) [.int x1] (c_X12_isSet x1 h e2) cv_RX12_452 (wl_119 h) rfl rfl rfl (Nat.le_of_ble_eq_true rfl) (Nat.le_of_ble_eq_true rfl) dX12_worst_2 ?_
  refine qt_if_eq 16 dX12_worst_5 (by decide) E (fun E => ?_) (fun E => ?_)
  · refine qt_iconst dX12_worst_16 ci_m1 ?_
    exact qt_ireturn rfl (Nat.le_of_ble_eq_true rfl) dX12_worst_17 E G
  · refine qt_aload_n 0 dX12_worst_8 rfl rfl ?_
    refine qt_iload_n 2 dX12_worst_9 rfl rfl ?_
    obtain ⟨c10, h10, e10, E⟩ := qbn_el E
    refine qt_callVi (b2 := 0) [.int x2] (c_X12_isHill x2 h2 e10) cv_RX12_194 (wl_119 h2) rfl rfl rfl (Nat.le_of_ble_eq_true rfl) (Nat.le_of_ble_eq_true rfl) dX12_worst_10 ?_
    refine qt_if_ne 18 dX12_worst_13 (by decide) E (fun E => ?_) (fun E => ?_)
    · refine qt_aload_n 0 dX12_worst_18 rfl rfl ?_
      refine qt_iload_n 1 dX12_worst_19 rfl rfl ?_
      obtain ⟨h20, e20, E⟩ := qbv_el E
      refine qt_callVv (b2 := 0) [.int x1] (c_X12_fillsBoth x1 h10 e20) cv_RX12_493 (wl_119 h10) rfl rfl rfl (Nat.le_of_ble_eq_true rfl) (Nat.le_of_ble_eq_true rfl) dX12_worst_20 ?_
      refine qt_aload_n 0 dX12_worst_23 rfl rfl ?_
      refine qt_iload_n 2 dX12_worst_24 rfl rfl ?_
      obtain ⟨c25, h25, e25, E⟩ := qbn_el E
      refine qt_callVi (b2 := 0) [.int x2] (c_X12_worstOf x2 h20 e25) cv_RX12_496 (wl_119 h20) rfl rfl rfl (Nat.le_of_ble_eq_true rfl) (Nat.le_of_ble_eq_true rfl) dX12_worst_25 ?_
      exact qt_ireturn rfl (Nat.le_of_ble_eq_true rfl) dX12_worst_28 E G
    · refine qt_iconst dX12_worst_16 ci_m1 ?_
      exact qt_ireturn rfl (Nat.le_of_ble_eq_true rfl) dX12_worst_17 E G
noncomputable def f_X12_next_b85 (x3 : Int32) (h : qa_M) : Option (Int32 × qa_M) :=
  some (x3, h)
set_option maxRecDepth 20000 in
theorem s_X12_next_b85 {l : Launch} {g : qa_G} {d : Nat} {rz : Option Value} {hz : qa_M} (x3 : Int32) (h : qa_M) {z : (Int32 × qa_M)} (E : f_X12_next_b85 x3 h = some z) (G : (qg_i rz hz) z) : qt_At l g (yX12_next, cX12_next, 5, (some .int)) (d + 8) 0 0 85 [(3, .int x3)] [] h rz hz := by
  unfold f_X12_next_b85 at E
  refine qt_iload_n 0 dX12_next_85 rfl rfl ?_
  refine qt_goto 94 dX12_next_86 (by decide) ?_
  exact qt_ireturn rfl (Nat.le_of_ble_eq_true rfl) dX12_next_94 E G
noncomputable def f_X12_next_b75 (x2 : Int32) (x3 : Int32) (h : qa_M) : Option (Int32 × qa_M) :=
  if x3 = (-2 : Int32) then (
   f_X12_next_b85 x3 h)
  else (
   if x2 = 0 then (
    f_X12_next_b85 x3 h)
   else (
    qbn (m_X12_worstOf x3 h) (fun (c91 : Int32) (h91 : qa_M) =>
    some (c91, h91))))
set_option maxRecDepth 20000 in
theorem s_X12_next_b75 {l : Launch} {g : qa_G} {d : Nat} {rz : Option Value} {hz : qa_M} (x2 : Int32) (x3 : Int32) (h : qa_M) {z : (Int32 × qa_M)} (E : f_X12_next_b75 x2 x3 h = some z) (G : (qg_i rz hz) z) : qt_At l g (yX12_next, cX12_next, 5, (some .int)) (d + 8) 0 0 75 [(0, .ref (g.1 + 119)), (2, .int x2), (3, .int x3)] [] h rz hz := by
  unfold f_X12_next_b75 at E
  refine qt_iload_n 2 dX12_next_75 rfl rfl ?_
  refine qt_bipush dX12_next_76 cb_m2 ?_
  refine qt_icmp_eq 85 dX12_next_78 (by decide) E (fun E => ?_) (fun E => ?_)
  · exact qt_sub _ [2] rfl ((s_X12_next_b85 x3 h E G))
  · refine qt_iload_n 1 dX12_next_81 rfl rfl ?_
    refine qt_if_ne 89 dX12_next_82 (by decide) E (fun E => ?_) (fun E => ?_)
    · refine qt_aload_n 0 dX12_next_89 rfl rfl ?_
      refine qt_iload_n 2 dX12_next_90 rfl rfl ?_
      obtain ⟨c91, h91, e91, E⟩ := qbn_el E
      refine qt_callVi (b2 := 0) [.int x3] (c_X12_worstOf x3 h e91) cv_RX12_496 (wl_119 h) rfl rfl rfl (Nat.le_of_ble_eq_true rfl) (Nat.le_of_ble_eq_true rfl) dX12_next_91 ?_
      exact qt_ireturn rfl (Nat.le_of_ble_eq_true rfl) dX12_next_94 E G
    · exact qt_sub _ [2] rfl ((s_X12_next_b85 x3 h E G))
noncomputable def f_X12_next_b68 (x2 : Int32) (x4 : Int32) (s0 : Int32) (h : qa_M) : Option ((Int32 × Int32 × Int32 × qa_M) ⊕ (Int32 × qa_M)) :=
  qbd s0 (fun v68 : Int32 =>
  qbd (x4 + (1 : Int32)) (fun v69 : Int32 =>
  some (.inl (x2, v68, v69, h))))
set_option maxRecDepth 20000 in
theorem s_X12_next_b68 {l : Launch} {g : qa_G} {d : Nat} {rz : Option Value} {hz : qa_M} (x2 : Int32) (x4 : Int32) (s0 : Int32) (h : qa_M) {z : ((Int32 × Int32 × Int32 × qa_M) ⊕ (Int32 × qa_M))} (E : f_X12_next_b68 x2 x4 s0 h = some z) (G : (Sum.elim (fun (sz : Int32 × Int32 × Int32 × qa_M) => qt_At l g (yX12_next, cX12_next, 5, (some .int)) (d + 8) 0 0 31 [(0, .ref (g.1 + 119)), (2, .int sz.1), (3, .int sz.2.1), (4, .int sz.2.2.1)] [] sz.2.2.2 rz hz) (qg_i rz hz)) z) : qt_At l g (yX12_next, cX12_next, 5, (some .int)) (d + 8) 0 0 68 [(0, .ref (g.1 + 119)), (2, .int x2), (4, .int x4)] [.int s0] h rz hz := by
  unfold f_X12_next_b68 at E
  refine qt_istore_n (fun v68 => [(3, .int v68), (0, .ref (g.1 + 119)), (2, .int x2), (4, .int x4)]) dX12_next_68 rfl (Nat.le_of_ble_eq_true rfl) (fun _ => rfl) E (fun v68 E => ?_)
  refine qt_iinc 3 (fun v69 => [(4, .int v69), (3, .int v68), (0, .ref (g.1 + 119)), (2, .int x2)]) dX12_next_69 rfl ci_1 (Nat.le_of_ble_eq_true rfl) (fun _ => rfl) E (fun v69 E => ?_)
  refine qt_goto 31 dX12_next_72 (by decide) ?_
  cases E
  exact qt_sub _ [2, 3, 1, 0] rfl (G)
noncomputable def f_X12_next_b62 (x2 : Int32) (x4 : Int32) (h : qa_M) : Option ((Int32 × Int32 × Int32 × qa_M) ⊕ (Int32 × qa_M)) :=
  f_X12_next_b68 x2 x4 x4 h
set_option maxRecDepth 20000 in
theorem s_X12_next_b62 {l : Launch} {g : qa_G} {d : Nat} {rz : Option Value} {hz : qa_M} (x2 : Int32) (x4 : Int32) (h : qa_M) {z : ((Int32 × Int32 × Int32 × qa_M) ⊕ (Int32 × qa_M))} (E : f_X12_next_b62 x2 x4 h = some z) (G : (Sum.elim (fun (sz : Int32 × Int32 × Int32 × qa_M) => qt_At l g (yX12_next, cX12_next, 5, (some .int)) (d + 8) 0 0 31 [(0, .ref (g.1 + 119)), (2, .int sz.1), (3, .int sz.2.1), (4, .int sz.2.2.1)] [] sz.2.2.2 rz hz) (qg_i rz hz)) z) : qt_At l g (yX12_next, cX12_next, 5, (some .int)) (d + 8) 0 0 62 [(0, .ref (g.1 + 119)), (2, .int x2), (4, .int x4)] [] h rz hz := by
  unfold f_X12_next_b62 at E
  refine qt_iload 2 dX12_next_62 rfl ?_
  refine qt_goto 68 dX12_next_64 (by decide) ?_
  exact qt_sub _ [0, 1, 2] rfl ((s_X12_next_b68 x2 x4 x4 h E G))
noncomputable def f_X12_next_b31 (x2 : Int32) (x3 : Int32) (x4 : Int32) (h : qa_M) : Option ((Int32 × Int32 × Int32 × qa_M) ⊕ (Int32 × qa_M)) :=
  qck (2 : Int32) 8 (
  if (h.1 120 (2 : Int32).toNatClampNeg) ≤ x4 then (
   qup (f_X12_next_b75 x2 x3 h))
  else (
   if x3 = (-2 : Int32) then (
    f_X12_next_b62 x2 x4 h)
   else (
    qbn (m_X12_worstOf x4 h) (fun (c51 : Int32) (h51 : qa_M) =>
    qbn (m_X12_worstOf x3 h51) (fun (c56 : Int32) (h56 : qa_M) =>
    if c56 ≤ c51 then (
     f_X12_next_b68 x2 x4 x3 h56)
    else (
     f_X12_next_b62 x2 x4 h56))))))
set_option maxRecDepth 20000 in
theorem s_X12_next_b31 {l : Launch} {g : qa_G} {d : Nat} {rz : Option Value} {hz : qa_M} (x2 : Int32) (x3 : Int32) (x4 : Int32) (h : qa_M) {z : ((Int32 × Int32 × Int32 × qa_M) ⊕ (Int32 × qa_M))} (E : f_X12_next_b31 x2 x3 x4 h = some z) (G : (Sum.elim (fun (sz : Int32 × Int32 × Int32 × qa_M) => qt_At l g (yX12_next, cX12_next, 5, (some .int)) (d + 8) 0 0 31 [(0, .ref (g.1 + 119)), (2, .int sz.1), (3, .int sz.2.1), (4, .int sz.2.2.1)] [] sz.2.2.2 rz hz) (qg_i rz hz)) z) : qt_At l g (yX12_next, cX12_next, 5, (some .int)) (d + 8) 0 0 31 [(0, .ref (g.1 + 119)), (2, .int x2), (3, .int x3), (4, .int x4)] [] h rz hz := by
  unfold f_X12_next_b31 at E
  refine qt_iload 3 dX12_next_31 rfl ?_
  refine qt_aload_n 0 dX12_next_33 rfl rfl ?_
  refine qt_getS 120 (wl_119 h) fe_RX12_7 rfl dX12_next_34 ?_
  refine qt_iconst dX12_next_37 ci_2 ?_
  refine qt_iald (wl_120 h) dX12_next_38 E (fun E => ?_)
  refine qt_icmp_ge 75 dX12_next_39 (by decide) E (fun E => ?_) (fun E => ?_)
  · obtain ⟨z0_, E, G⟩ := qup_g E G
    exact qt_sub _ [0, 1, 2] rfl ((s_X12_next_b75 x2 x3 h E G))
  · refine qt_iload_n 2 dX12_next_42 rfl rfl ?_
    refine qt_bipush dX12_next_43 cb_m2 ?_
    refine qt_icmp_eq 62 dX12_next_45 (by decide) E (fun E => ?_) (fun E => ?_)
    · exact qt_sub _ [0, 1, 3] rfl ((s_X12_next_b62 x2 x4 h E G))
    · refine qt_aload_n 0 dX12_next_48 rfl rfl ?_
      refine qt_iload 3 dX12_next_49 rfl ?_
      obtain ⟨c51, h51, e51, E⟩ := qbn_el E
      refine qt_callVi (b2 := 0) [.int x4] (c_X12_worstOf x4 h e51) cv_RX12_496 (wl_119 h) rfl rfl rfl (Nat.le_of_ble_eq_true rfl) (Nat.le_of_ble_eq_true rfl) dX12_next_51 ?_
      refine qt_aload_n 0 dX12_next_54 rfl rfl ?_
      refine qt_iload_n 2 dX12_next_55 rfl rfl ?_
      obtain ⟨c56, h56, e56, E⟩ := qbn_el E
      refine qt_callVi (b2 := 0) [.int x3] (c_X12_worstOf x3 h51 e56) cv_RX12_496 (wl_119 h51) rfl rfl rfl (Nat.le_of_ble_eq_true rfl) (Nat.le_of_ble_eq_true rfl) dX12_next_56 ?_
      refine qt_icmp_ge 67 dX12_next_59 (by decide) E (fun E => ?_) (fun E => ?_)
      · refine qt_iload_n 2 dX12_next_67 rfl rfl ?_
        exact qt_sub _ [0, 1, 3] rfl ((s_X12_next_b68 x2 x4 x3 h56 E G))
      · exact qt_sub _ [0, 1, 3] rfl ((s_X12_next_b62 x2 x4 h56 E G))
noncomputable def f_X12_next_b31_loop (x2 : Int32) (x3 : Int32) (x4 : Int32) (h : qa_M) : Option (Int32 × qa_M) := qlp (fun sz : Int32 × Int32 × Int32 × qa_M => f_X12_next_b31 sz.1 sz.2.1 sz.2.2.1 sz.2.2.2) (x2, x3, x4, h)
theorem s_X12_next_b31_loop {l : Launch} {g : qa_G} {d : Nat} {rz : Option Value} {hz : qa_M} (x2 : Int32) (x3 : Int32) (x4 : Int32) (h : qa_M) {z : (Int32 × qa_M)} (E : f_X12_next_b31_loop x2 x3 x4 h = some z) (G : (qg_i rz hz) z) : qt_At l g (yX12_next, cX12_next, 5, (some .int)) (d + 8) 0 0 31 [(0, .ref (g.1 + 119)), (2, .int x2), (3, .int x3), (4, .int x4)] [] h rz hz :=
  qlp_ind (fun sz : Int32 × Int32 × Int32 × qa_M => qt_At l g (yX12_next, cX12_next, 5, (some .int)) (d + 8) 0 0 31 [(0, .ref (g.1 + 119)), (2, .int sz.1), (3, .int sz.2.1), (4, .int sz.2.2.1)] [] sz.2.2.2 rz hz) (fun sz E => s_X12_next_b31 sz.1 sz.2.1 sz.2.2.1 sz.2.2.2 E G) (fun sz sz2 E ih => s_X12_next_b31 sz.1 sz.2.1 sz.2.2.1 sz.2.2.2 E ih) (x2, x3, x4, h) E
noncomputable def m_X12_next (x1 : Int32) (x2 : Int32) (h : qa_M) : Option (Int32 × qa_M) :=
  qbn (m_X12_isSet x1 h) (fun (c2 : Int32) (h2 : qa_M) =>
  if c2 = 0 then (
   some ((-1 : Int32), h2))
  else (
   qbn (m_X12_in x2.toInt64 (0 : Int64) (1 : Int64) h2) (fun (c12 : Int32) (h12 : qa_M) =>
   if c12 = 0 then (
    some ((-1 : Int32), h12))
   else (
    qbv (m_X12_fillsBoth x1 h12) (fun h22 : qa_M =>
    qbd (-2 : Int32) (fun v27 : Int32 =>
    qbd (0 : Int32) (fun v29 : Int32 =>
    f_X12_next_b31_loop x2 v27 v29 h22)))))))
set_option maxRecDepth 20000 in
theorem c_X12_next {l : Launch} {g : qa_G} {d : Nat} (x1 : Int32) (x2 : Int32) (h : qa_M) {c : Int32} {h1 : qa_M} (E : m_X12_next x1 x2 h = some (c, h1)) : qt_Met l g (yX12_next, cX12_next, 5, (some .int)) (d + 8) 0 [.ref (g.1 + 119), .int x1, .int x2] h (some (.int c)) h1 := by
  refine qt_Met.of (plainFor_of_name (by decide)) (Nat.le_of_ble_eq_true rfl) ?_
  have G : qg_i (some (.int c)) h1 ((c, h1)) := ⟨rfl, rfl⟩
  unfold m_X12_next at E
  refine qt_aload_n 0 dX12_next_0 rfl rfl ?_
  refine qt_iload_n 1 dX12_next_1 rfl rfl ?_
  obtain ⟨c2, h2, e2, E⟩ := qbn_el E
  refine qt_callVi (b2 := 0) [.int x1] (c_X12_isSet x1 h e2) cv_RX12_452 (wl_119 h) rfl rfl rfl (Nat.le_of_ble_eq_true rfl) (Nat.le_of_ble_eq_true rfl) dX12_next_2 ?_
  refine qt_if_eq 18 dX12_next_5 (by decide) E (fun E => ?_) (fun E => ?_)
  · refine qt_iconst dX12_next_18 ci_m1 ?_
    exact qt_ireturn rfl (Nat.le_of_ble_eq_true rfl) dX12_next_19 E G
  · refine qt_iload_n 2 dX12_next_8 rfl rfl ?_
    refine qt_i2l dX12_next_9 ?_
    refine qt_lconst dX12_next_10 cl_0 ?_
    refine qt_lconst dX12_next_11 cl_1 ?_
    obtain ⟨c12, h12, e12, E⟩ := qbn_el E
    refine qt_callSi (b2 := 0) [.long x2.toInt64, .long (0 : Int64), .long (1 : Int64)] (c_X12_in x2.toInt64 (0 : Int64) (1 : Int64) h2 e12) cv_RX12_161 rfl (Nat.le_of_ble_eq_true rfl) (Nat.le_of_ble_eq_true rfl) dX12_next_12 ?_
    refine qt_if_ne 20 dX12_next_15 (by decide) E (fun E => ?_) (fun E => ?_)
    · refine qt_aload_n 0 dX12_next_20 rfl rfl ?_
      refine qt_iload_n 1 dX12_next_21 rfl rfl ?_
      obtain ⟨h22, e22, E⟩ := qbv_el E
      refine qt_callVv (b2 := 0) [.int x1] (c_X12_fillsBoth x1 h12 e22) cv_RX12_493 (wl_119 h12) rfl rfl rfl (Nat.le_of_ble_eq_true rfl) (Nat.le_of_ble_eq_true rfl) dX12_next_22 ?_
      refine qt_bipush dX12_next_25 cb_m2 ?_
      refine qt_istore_n (fun v27 => [(3, .int v27), (0, .ref (g.1 + 119)), (1, .int x1), (2, .int x2)]) dX12_next_27 rfl (Nat.le_of_ble_eq_true rfl) (fun _ => rfl) E (fun v27 E => ?_)
      refine qt_iconst dX12_next_28 ci_0 ?_
      refine qt_istore (fun v29 => [(4, .int v29), (3, .int v27), (0, .ref (g.1 + 119)), (1, .int x1), (2, .int x2)]) dX12_next_29 (Nat.le_of_ble_eq_true rfl) (fun _ => rfl) E (fun v29 E => ?_)
      exact qt_sub _ [2, 4, 1, 0] rfl ((s_X12_next_b31_loop x2 v27 v29 h22 E G))
    · refine qt_iconst dX12_next_18 ci_m1 ?_
      exact qt_ireturn rfl (Nat.le_of_ble_eq_true rfl) dX12_next_19 E G
noncomputable def f_X12_worstThen_b49 (x1 : Int32) (x2 : Int32) (x3 : Int32) (x5 : Int32) (s0 : Int32) (h : qa_M) : Option ((Int32 × Int32 × Int32 × Int32 × Int32 × qa_M) ⊕ (Int32 × qa_M)) :=
  qbd s0 (fun v49 : Int32 =>
  qbd (x5 + (1 : Int32)) (fun v51 : Int32 =>
  some (.inl (x1, x2, x3, v49, v51, h))))
set_option maxRecDepth 20000 in
theorem s_X12_worstThen_b49 {l : Launch} {g : qa_G} {d : Nat} {rz : Option Value} {hz : qa_M} (x1 : Int32) (x2 : Int32) (x3 : Int32) (x5 : Int32) (s0 : Int32) (h : qa_M) {z : ((Int32 × Int32 × Int32 × Int32 × Int32 × qa_M) ⊕ (Int32 × qa_M))} (E : f_X12_worstThen_b49 x1 x2 x3 x5 s0 h = some z) (G : (Sum.elim (fun (sz : Int32 × Int32 × Int32 × Int32 × Int32 × qa_M) => qt_At l g (yX12_worstThen, cX12_worstThen, 6, (some .int)) (d + 1) 0 0 6 [(0, .ref (g.1 + 119)), (1, .int sz.1), (2, .int sz.2.1), (3, .int sz.2.2.1), (4, .int sz.2.2.2.1), (5, .int sz.2.2.2.2.1)] [] sz.2.2.2.2.2 rz hz) (qg_i rz hz)) z) : qt_At l g (yX12_worstThen, cX12_worstThen, 6, (some .int)) (d + 1) 0 0 49 [(0, .ref (g.1 + 119)), (1, .int x1), (2, .int x2), (3, .int x3), (5, .int x5)] [.int s0] h rz hz := by
  unfold f_X12_worstThen_b49 at E
  refine qt_istore (fun v49 => [(4, .int v49), (0, .ref (g.1 + 119)), (1, .int x1), (2, .int x2), (3, .int x3), (5, .int x5)]) dX12_worstThen_49 (Nat.le_of_ble_eq_true rfl) (fun _ => rfl) E (fun v49 E => ?_)
  refine qt_iinc 5 (fun v51 => [(5, .int v51), (4, .int v49), (0, .ref (g.1 + 119)), (1, .int x1), (2, .int x2), (3, .int x3)]) dX12_worstThen_51 rfl ci_1 (Nat.le_of_ble_eq_true rfl) (fun _ => rfl) E (fun v51 E => ?_)
  refine qt_goto 6 dX12_worstThen_54 (by decide) ?_
  cases E
  exact qt_sub _ [2, 3, 4, 5, 1, 0] rfl (G)
noncomputable def f_X12_worstThen_b6 (x1 : Int32) (x2 : Int32) (x3 : Int32) (x4 : Int32) (x5 : Int32) (h : qa_M) : Option ((Int32 × Int32 × Int32 × Int32 × Int32 × qa_M) ⊕ (Int32 × qa_M)) :=
  if (16 : Int32) ≤ x5 then (
   qup (some (x4, h)))
  else (
   qbn (m_X12_cell x1 x2 x3 x5 h) (fun (c22 : Int32) (h22 : qa_M) =>
   qck c22 16384 (
   if (h22.1 159 c22.toNatClampNeg) ≤ x4 then (
    f_X12_worstThen_b49 x1 x2 x3 x5 x4 h22)
   else (
    qbn (m_X12_cell x1 x2 x3 x5 h22) (fun (c40 : Int32) (h40 : qa_M) =>
    qck c40 16384 (
    f_X12_worstThen_b49 x1 x2 x3 x5 (h40.1 159 c40.toNatClampNeg) h40))))))
set_option maxRecDepth 20000 in
theorem s_X12_worstThen_b6 {l : Launch} {g : qa_G} {d : Nat} {rz : Option Value} {hz : qa_M} (x1 : Int32) (x2 : Int32) (x3 : Int32) (x4 : Int32) (x5 : Int32) (h : qa_M) {z : ((Int32 × Int32 × Int32 × Int32 × Int32 × qa_M) ⊕ (Int32 × qa_M))} (E : f_X12_worstThen_b6 x1 x2 x3 x4 x5 h = some z) (G : (Sum.elim (fun (sz : Int32 × Int32 × Int32 × Int32 × Int32 × qa_M) => qt_At l g (yX12_worstThen, cX12_worstThen, 6, (some .int)) (d + 1) 0 0 6 [(0, .ref (g.1 + 119)), (1, .int sz.1), (2, .int sz.2.1), (3, .int sz.2.2.1), (4, .int sz.2.2.2.1), (5, .int sz.2.2.2.2.1)] [] sz.2.2.2.2.2 rz hz) (qg_i rz hz)) z) : qt_At l g (yX12_worstThen, cX12_worstThen, 6, (some .int)) (d + 1) 0 0 6 [(0, .ref (g.1 + 119)), (1, .int x1), (2, .int x2), (3, .int x3), (4, .int x4), (5, .int x5)] [] h rz hz := by
  unfold f_X12_worstThen_b6 at E
  refine qt_iload 5 dX12_worstThen_6 rfl ?_
  refine qt_bipush dX12_worstThen_8 cb_16 ?_
  refine qt_icmp_ge 57 dX12_worstThen_10 (by decide) E (fun E => ?_) (fun E => ?_)
  · refine qt_iload 4 dX12_worstThen_57 rfl ?_
    obtain ⟨z0_, E, G⟩ := qup_g E G
    exact qt_ireturn rfl (Nat.le_of_ble_eq_true rfl) dX12_worstThen_59 E G
  · refine qt_aload_n 0 dX12_worstThen_13 rfl rfl ?_
    refine qt_getS 159 (wl_119 h) fe_RX12_133 rfl dX12_worstThen_14 ?_
    refine qt_iload_n 1 dX12_worstThen_17 rfl rfl ?_
    refine qt_iload_n 2 dX12_worstThen_18 rfl rfl ?_
    refine qt_iload_n 3 dX12_worstThen_19 rfl rfl ?_
    refine qt_iload 5 dX12_worstThen_20 rfl ?_
    obtain ⟨c22, h22, e22, E⟩ := qbn_el E
    refine qt_callSi (b2 := 0) [.int x1, .int x2, .int x3, .int x5] (c_X12_cell x1 x2 x3 x5 h e22) cv_RX12_489 rfl (Nat.le_of_ble_eq_true rfl) (Nat.le_of_ble_eq_true rfl) dX12_worstThen_22 ?_
    refine qt_iald (wl_159 h22) dX12_worstThen_25 E (fun E => ?_)
    refine qt_iload 4 dX12_worstThen_26 rfl ?_
    refine qt_icmp_le 47 dX12_worstThen_28 (by decide) E (fun E => ?_) (fun E => ?_)
    · refine qt_iload 4 dX12_worstThen_47 rfl ?_
      exact qt_sub _ [0, 1, 2, 3, 5] rfl ((s_X12_worstThen_b49 x1 x2 x3 x5 x4 h22 E G))
    · refine qt_aload_n 0 dX12_worstThen_31 rfl rfl ?_
      refine qt_getS 159 (wl_119 h22) fe_RX12_133 rfl dX12_worstThen_32 ?_
      refine qt_iload_n 1 dX12_worstThen_35 rfl rfl ?_
      refine qt_iload_n 2 dX12_worstThen_36 rfl rfl ?_
      refine qt_iload_n 3 dX12_worstThen_37 rfl rfl ?_
      refine qt_iload 5 dX12_worstThen_38 rfl ?_
      obtain ⟨c40, h40, e40, E⟩ := qbn_el E
      refine qt_callSi (b2 := 0) [.int x1, .int x2, .int x3, .int x5] (c_X12_cell x1 x2 x3 x5 h22 e40) cv_RX12_489 rfl (Nat.le_of_ble_eq_true rfl) (Nat.le_of_ble_eq_true rfl) dX12_worstThen_40 ?_
      refine qt_iald (wl_159 h40) dX12_worstThen_43 E (fun E => ?_)
      refine qt_goto 49 dX12_worstThen_44 (by decide) ?_
      exact qt_sub _ [0, 1, 2, 3, 5] rfl ((s_X12_worstThen_b49 x1 x2 x3 x5 (h40.1 159 c40.toNatClampNeg) h40 E G))
noncomputable def f_X12_worstThen_b6_loop (x1 : Int32) (x2 : Int32) (x3 : Int32) (x4 : Int32) (x5 : Int32) (h : qa_M) : Option (Int32 × qa_M) := qlp (fun sz : Int32 × Int32 × Int32 × Int32 × Int32 × qa_M => f_X12_worstThen_b6 sz.1 sz.2.1 sz.2.2.1 sz.2.2.2.1 sz.2.2.2.2.1 sz.2.2.2.2.2) (x1, x2, x3, x4, x5, h)
theorem s_X12_worstThen_b6_loop {l : Launch} {g : qa_G} {d : Nat} {rz : Option Value} {hz : qa_M} (x1 : Int32) (x2 : Int32) (x3 : Int32) (x4 : Int32) (x5 : Int32) (h : qa_M) {z : (Int32 × qa_M)} (E : f_X12_worstThen_b6_loop x1 x2 x3 x4 x5 h = some z) (G : (qg_i rz hz) z) : qt_At l g (yX12_worstThen, cX12_worstThen, 6, (some .int)) (d + 1) 0 0 6 [(0, .ref (g.1 + 119)), (1, .int x1), (2, .int x2), (3, .int x3), (4, .int x4), (5, .int x5)] [] h rz hz :=
  qlp_ind (fun sz : Int32 × Int32 × Int32 × Int32 × Int32 × qa_M => qt_At l g (yX12_worstThen, cX12_worstThen, 6, (some .int)) (d + 1) 0 0 6 [(0, .ref (g.1 + 119)), (1, .int sz.1), (2, .int sz.2.1), (3, .int sz.2.2.1), (4, .int sz.2.2.2.1), (5, .int sz.2.2.2.2.1)] [] sz.2.2.2.2.2 rz hz) (fun sz E => s_X12_worstThen_b6 sz.1 sz.2.1 sz.2.2.1 sz.2.2.2.1 sz.2.2.2.2.1 sz.2.2.2.2.2 E G) (fun sz sz2 E ih => s_X12_worstThen_b6 sz.1 sz.2.1 sz.2.2.1 sz.2.2.2.1 sz.2.2.2.2.1 sz.2.2.2.2.2 E ih) (x1, x2, x3, x4, x5, h) E
noncomputable def m_X12_worstThen (x1 : Int32) (x2 : Int32) (x3 : Int32) (h : qa_M) : Option (Int32 × qa_M) :=
  qbd (0 : Int32) (fun v1 : Int32 =>
  qbd (0 : Int32) (fun v4 : Int32 =>
  f_X12_worstThen_b6_loop x1 x2 x3 v1 v4 h))
set_option maxRecDepth 20000 in
theorem c_X12_worstThen {l : Launch} {g : qa_G} {d : Nat} (x1 : Int32) (x2 : Int32) (x3 : Int32) (h : qa_M) {c : Int32} {h1 : qa_M} (E : m_X12_worstThen x1 x2 x3 h = some (c, h1)) : qt_Met l g (yX12_worstThen, cX12_worstThen, 6, (some .int)) (d + 1) 0 [.ref (g.1 + 119), .int x1, .int x2, .int x3] h (some (.int c)) h1 := by
  refine qt_Met.of (plainFor_of_name (by decide)) (Nat.le_of_ble_eq_true rfl) ?_
  have G : qg_i (some (.int c)) h1 ((c, h1)) := ⟨rfl, rfl⟩
  unfold m_X12_worstThen at E
  refine qt_iconst dX12_worstThen_0 ci_0 ?_
  refine qt_istore (fun v1 => [(4, .int v1), (0, .ref (g.1 + 119)), (1, .int x1), (2, .int x2), (3, .int x3)]) dX12_worstThen_1 (Nat.le_of_ble_eq_true rfl) (fun _ => rfl) E (fun v1 E => ?_)
  refine qt_iconst dX12_worstThen_3 ci_0 ?_
  refine qt_istore (fun v4 => [(5, .int v4), (4, .int v1), (0, .ref (g.1 + 119)), (1, .int x1), (2, .int x2), (3, .int x3)]) dX12_worstThen_4 (Nat.le_of_ble_eq_true rfl) (fun _ => rfl) E (fun v4 E => ?_)
  exact qt_sub _ [2, 3, 4, 5, 1, 0] rfl ((s_X12_worstThen_b6_loop x1 x2 x3 v1 v4 h E G))
noncomputable def f_X12_thenOf_b73 (x1 : Int32) (x2 : Int32) (x4 : Int32) (s0 : Int32) (h : qa_M) : Option ((Int32 × Int32 × Int32 × Int32 × qa_M) ⊕ (Int32 × qa_M)) :=
  qbd s0 (fun v73 : Int32 =>
  qbd (x4 + (1 : Int32)) (fun v74 : Int32 =>
  some (.inl (x1, x2, v73, v74, h))))
set_option maxRecDepth 20000 in
theorem s_X12_thenOf_b73 {l : Launch} {g : qa_G} {d : Nat} {rz : Option Value} {hz : qa_M} (x1 : Int32) (x2 : Int32) (x4 : Int32) (s0 : Int32) (h : qa_M) {z : ((Int32 × Int32 × Int32 × Int32 × qa_M) ⊕ (Int32 × qa_M))} (E : f_X12_thenOf_b73 x1 x2 x4 s0 h = some z) (G : (Sum.elim (fun (sz : Int32 × Int32 × Int32 × Int32 × qa_M) => qt_At l g (yX12_thenOf, cX12_thenOf, 6, (some .int)) (d + 2) 0 0 5 [(0, .ref (g.1 + 119)), (1, .int sz.1), (2, .int sz.2.1), (3, .int sz.2.2.1), (4, .int sz.2.2.2.1)] [] sz.2.2.2.2 rz hz) (qg_i rz hz)) z) : qt_At l g (yX12_thenOf, cX12_thenOf, 6, (some .int)) (d + 2) 0 0 73 [(0, .ref (g.1 + 119)), (1, .int x1), (2, .int x2), (4, .int x4)] [.int s0] h rz hz := by
  unfold f_X12_thenOf_b73 at E
  refine qt_istore_n (fun v73 => [(3, .int v73), (0, .ref (g.1 + 119)), (1, .int x1), (2, .int x2), (4, .int x4)]) dX12_thenOf_73 rfl (Nat.le_of_ble_eq_true rfl) (fun _ => rfl) E (fun v73 E => ?_)
  refine qt_iinc 4 (fun v74 => [(4, .int v74), (3, .int v73), (0, .ref (g.1 + 119)), (1, .int x1), (2, .int x2)]) dX12_thenOf_74 rfl ci_1 (Nat.le_of_ble_eq_true rfl) (fun _ => rfl) E (fun v74 E => ?_)
  refine qt_goto 5 dX12_thenOf_77 (by decide) ?_
  cases E
  exact qt_sub _ [2, 3, 4, 1, 0] rfl (G)
noncomputable def f_X12_thenOf_b72 (x1 : Int32) (x2 : Int32) (x3 : Int32) (x4 : Int32) (h : qa_M) : Option ((Int32 × Int32 × Int32 × Int32 × qa_M) ⊕ (Int32 × qa_M)) :=
  f_X12_thenOf_b73 x1 x2 x4 x3 h
set_option maxRecDepth 20000 in
theorem s_X12_thenOf_b72 {l : Launch} {g : qa_G} {d : Nat} {rz : Option Value} {hz : qa_M} (x1 : Int32) (x2 : Int32) (x3 : Int32) (x4 : Int32) (h : qa_M) {z : ((Int32 × Int32 × Int32 × Int32 × qa_M) ⊕ (Int32 × qa_M))} (E : f_X12_thenOf_b72 x1 x2 x3 x4 h = some z) (G : (Sum.elim (fun (sz : Int32 × Int32 × Int32 × Int32 × qa_M) => qt_At l g (yX12_thenOf, cX12_thenOf, 6, (some .int)) (d + 2) 0 0 5 [(0, .ref (g.1 + 119)), (1, .int sz.1), (2, .int sz.2.1), (3, .int sz.2.2.1), (4, .int sz.2.2.2.1)] [] sz.2.2.2.2 rz hz) (qg_i rz hz)) z) : qt_At l g (yX12_thenOf, cX12_thenOf, 6, (some .int)) (d + 2) 0 0 72 [(0, .ref (g.1 + 119)), (1, .int x1), (2, .int x2), (3, .int x3), (4, .int x4)] [] h rz hz := by
  unfold f_X12_thenOf_b72 at E
  refine qt_iload_n 3 dX12_thenOf_72 rfl rfl ?_
  exact qt_sub _ [0, 1, 2, 4] rfl ((s_X12_thenOf_b73 x1 x2 x4 x3 h E G))
noncomputable def f_X12_thenOf_b67 (x1 : Int32) (x2 : Int32) (x4 : Int32) (h : qa_M) : Option ((Int32 × Int32 × Int32 × Int32 × qa_M) ⊕ (Int32 × qa_M)) :=
  f_X12_thenOf_b73 x1 x2 x4 x4 h
set_option maxRecDepth 20000 in
theorem s_X12_thenOf_b67 {l : Launch} {g : qa_G} {d : Nat} {rz : Option Value} {hz : qa_M} (x1 : Int32) (x2 : Int32) (x4 : Int32) (h : qa_M) {z : ((Int32 × Int32 × Int32 × Int32 × qa_M) ⊕ (Int32 × qa_M))} (E : f_X12_thenOf_b67 x1 x2 x4 h = some z) (G : (Sum.elim (fun (sz : Int32 × Int32 × Int32 × Int32 × qa_M) => qt_At l g (yX12_thenOf, cX12_thenOf, 6, (some .int)) (d + 2) 0 0 5 [(0, .ref (g.1 + 119)), (1, .int sz.1), (2, .int sz.2.1), (3, .int sz.2.2.1), (4, .int sz.2.2.2.1)] [] sz.2.2.2.2 rz hz) (qg_i rz hz)) z) : qt_At l g (yX12_thenOf, cX12_thenOf, 6, (some .int)) (d + 2) 0 0 67 [(0, .ref (g.1 + 119)), (1, .int x1), (2, .int x2), (4, .int x4)] [] h rz hz := by
  unfold f_X12_thenOf_b67 at E
  refine qt_iload 3 dX12_thenOf_67 rfl ?_
  refine qt_goto 73 dX12_thenOf_69 (by decide) ?_
  exact qt_sub _ [0, 1, 2, 3] rfl ((s_X12_thenOf_b73 x1 x2 x4 x4 h E G))
noncomputable def f_X12_thenOf_b37 (x1 : Int32) (x2 : Int32) (x3 : Int32) (x4 : Int32) (s0 : Int32) (h : qa_M) : Option ((Int32 × Int32 × Int32 × Int32 × qa_M) ⊕ (Int32 × qa_M)) :=
  qbd s0 (fun v37 : Int32 =>
  if v37 = 0 then (
   f_X12_thenOf_b72 x1 x2 x3 x4 h)
  else (
   if x3 = (-1 : Int32) then (
    f_X12_thenOf_b67 x1 x2 x4 h)
   else (
    qbn (m_X12_worstThen x1 x2 x4 h) (fun (c54 : Int32) (h54 : qa_M) =>
    qbn (m_X12_worstThen x1 x2 x3 h54) (fun (c61 : Int32) (h61 : qa_M) =>
    if c61 ≤ c54 then (
     f_X12_thenOf_b72 x1 x2 x3 x4 h61)
    else (
     f_X12_thenOf_b67 x1 x2 x4 h61))))))
set_option maxRecDepth 20000 in
theorem s_X12_thenOf_b37 {l : Launch} {g : qa_G} {d : Nat} {rz : Option Value} {hz : qa_M} (x1 : Int32) (x2 : Int32) (x3 : Int32) (x4 : Int32) (s0 : Int32) (h : qa_M) {z : ((Int32 × Int32 × Int32 × Int32 × qa_M) ⊕ (Int32 × qa_M))} (E : f_X12_thenOf_b37 x1 x2 x3 x4 s0 h = some z) (G : (Sum.elim (fun (sz : Int32 × Int32 × Int32 × Int32 × qa_M) => qt_At l g (yX12_thenOf, cX12_thenOf, 6, (some .int)) (d + 2) 0 0 5 [(0, .ref (g.1 + 119)), (1, .int sz.1), (2, .int sz.2.1), (3, .int sz.2.2.1), (4, .int sz.2.2.2.1)] [] sz.2.2.2.2 rz hz) (qg_i rz hz)) z) : qt_At l g (yX12_thenOf, cX12_thenOf, 6, (some .int)) (d + 2) 0 0 37 [(0, .ref (g.1 + 119)), (1, .int x1), (2, .int x2), (3, .int x3), (4, .int x4)] [.int s0] h rz hz := by
  unfold f_X12_thenOf_b37 at E
  refine qt_istore (fun v37 => [(5, .int v37), (0, .ref (g.1 + 119)), (1, .int x1), (2, .int x2), (3, .int x3), (4, .int x4)]) dX12_thenOf_37 (Nat.le_of_ble_eq_true rfl) (fun _ => rfl) E (fun v37 E => ?_)
  refine qt_iload 0 dX12_thenOf_39 rfl ?_
  refine qt_if_eq 72 dX12_thenOf_41 (by decide) E (fun E => ?_) (fun E => ?_)
  · exact qt_sub _ [1, 2, 3, 4, 5] rfl ((s_X12_thenOf_b72 x1 x2 x3 x4 h E G))
  · refine qt_iload_n 4 dX12_thenOf_44 rfl rfl ?_
    refine qt_iconst dX12_thenOf_45 ci_m1 ?_
    refine qt_icmp_eq 67 dX12_thenOf_46 (by decide) E (fun E => ?_) (fun E => ?_)
    · exact qt_sub _ [1, 2, 3, 5] rfl ((s_X12_thenOf_b67 x1 x2 x4 h E G))
    · refine qt_aload_n 1 dX12_thenOf_49 rfl rfl ?_
      refine qt_iload_n 2 dX12_thenOf_50 rfl rfl ?_
      refine qt_iload_n 3 dX12_thenOf_51 rfl rfl ?_
      refine qt_iload 5 dX12_thenOf_52 rfl ?_
      obtain ⟨c54, h54, e54, E⟩ := qbn_el E
      refine qt_callVi (b2 := 0) [.int x1, .int x2, .int x4] (c_X12_worstThen x1 x2 x4 h e54) cv_RX12_499 (wl_119 h) rfl rfl rfl (Nat.le_of_ble_eq_true rfl) (Nat.le_of_ble_eq_true rfl) dX12_thenOf_54 ?_
      refine qt_aload_n 1 dX12_thenOf_57 rfl rfl ?_
      refine qt_iload_n 2 dX12_thenOf_58 rfl rfl ?_
      refine qt_iload_n 3 dX12_thenOf_59 rfl rfl ?_
      refine qt_iload_n 4 dX12_thenOf_60 rfl rfl ?_
      obtain ⟨c61, h61, e61, E⟩ := qbn_el E
      refine qt_callVi (b2 := 0) [.int x1, .int x2, .int x3] (c_X12_worstThen x1 x2 x3 h54 e61) cv_RX12_499 (wl_119 h54) rfl rfl rfl (Nat.le_of_ble_eq_true rfl) (Nat.le_of_ble_eq_true rfl) dX12_thenOf_61 ?_
      refine qt_icmp_ge 72 dX12_thenOf_64 (by decide) E (fun E => ?_) (fun E => ?_)
      · exact qt_sub _ [1, 2, 3, 4, 5] rfl ((s_X12_thenOf_b72 x1 x2 x3 x4 h61 E G))
      · exact qt_sub _ [1, 2, 3, 5] rfl ((s_X12_thenOf_b67 x1 x2 x4 h61 E G))
noncomputable def f_X12_thenOf_b32 (x1 : Int32) (x2 : Int32) (x3 : Int32) (x4 : Int32) (h : qa_M) : Option ((Int32 × Int32 × Int32 × Int32 × qa_M) ⊕ (Int32 × qa_M)) :=
  f_X12_thenOf_b37 x1 x2 x3 x4 (1 : Int32) h
set_option maxRecDepth 20000 in
theorem s_X12_thenOf_b32 {l : Launch} {g : qa_G} {d : Nat} {rz : Option Value} {hz : qa_M} (x1 : Int32) (x2 : Int32) (x3 : Int32) (x4 : Int32) (h : qa_M) {z : ((Int32 × Int32 × Int32 × Int32 × qa_M) ⊕ (Int32 × qa_M))} (E : f_X12_thenOf_b32 x1 x2 x3 x4 h = some z) (G : (Sum.elim (fun (sz : Int32 × Int32 × Int32 × Int32 × qa_M) => qt_At l g (yX12_thenOf, cX12_thenOf, 6, (some .int)) (d + 2) 0 0 5 [(0, .ref (g.1 + 119)), (1, .int sz.1), (2, .int sz.2.1), (3, .int sz.2.2.1), (4, .int sz.2.2.2.1)] [] sz.2.2.2.2 rz hz) (qg_i rz hz)) z) : qt_At l g (yX12_thenOf, cX12_thenOf, 6, (some .int)) (d + 2) 0 0 32 [(0, .ref (g.1 + 119)), (1, .int x1), (2, .int x2), (3, .int x3), (4, .int x4)] [] h rz hz := by
  unfold f_X12_thenOf_b32 at E
  refine qt_iconst dX12_thenOf_32 ci_1 ?_
  refine qt_goto 37 dX12_thenOf_33 (by decide) ?_
  exact qt_sub _ [0, 1, 2, 3, 4] rfl ((s_X12_thenOf_b37 x1 x2 x3 x4 (1 : Int32) h E G))
noncomputable def f_X12_thenOf_b5 (x1 : Int32) (x2 : Int32) (x3 : Int32) (x4 : Int32) (h : qa_M) : Option ((Int32 × Int32 × Int32 × Int32 × qa_M) ⊕ (Int32 × qa_M)) :=
  qck (2 : Int32) 8 (
  if (h.1 120 (2 : Int32).toNatClampNeg) ≤ x4 then (
   qup (some (x3, h)))
  else (
   if x4 = x1 then (
    qck (2 : Int32) 8 (
    if (h.1 120 (2 : Int32).toNatClampNeg) = (1 : Int32) then (
     f_X12_thenOf_b32 x1 x2 x3 x4 h)
    else (
     f_X12_thenOf_b37 x1 x2 x3 x4 (0 : Int32) h)))
   else (
    f_X12_thenOf_b32 x1 x2 x3 x4 h)))
set_option maxRecDepth 20000 in
theorem s_X12_thenOf_b5 {l : Launch} {g : qa_G} {d : Nat} {rz : Option Value} {hz : qa_M} (x1 : Int32) (x2 : Int32) (x3 : Int32) (x4 : Int32) (h : qa_M) {z : ((Int32 × Int32 × Int32 × Int32 × qa_M) ⊕ (Int32 × qa_M))} (E : f_X12_thenOf_b5 x1 x2 x3 x4 h = some z) (G : (Sum.elim (fun (sz : Int32 × Int32 × Int32 × Int32 × qa_M) => qt_At l g (yX12_thenOf, cX12_thenOf, 6, (some .int)) (d + 2) 0 0 5 [(0, .ref (g.1 + 119)), (1, .int sz.1), (2, .int sz.2.1), (3, .int sz.2.2.1), (4, .int sz.2.2.2.1)] [] sz.2.2.2.2 rz hz) (qg_i rz hz)) z) : qt_At l g (yX12_thenOf, cX12_thenOf, 6, (some .int)) (d + 2) 0 0 5 [(0, .ref (g.1 + 119)), (1, .int x1), (2, .int x2), (3, .int x3), (4, .int x4)] [] h rz hz := by
  unfold f_X12_thenOf_b5 at E
  refine qt_iload 4 dX12_thenOf_5 rfl ?_
  refine qt_aload_n 0 dX12_thenOf_7 rfl rfl ?_
  refine qt_getS 120 (wl_119 h) fe_RX12_7 rfl dX12_thenOf_8 ?_
  refine qt_iconst dX12_thenOf_11 ci_2 ?_
  refine qt_iald (wl_120 h) dX12_thenOf_12 E (fun E => ?_)
  refine qt_icmp_ge 80 dX12_thenOf_13 (by decide) E (fun E => ?_) (fun E => ?_)
  · refine qt_iload_n 3 dX12_thenOf_80 rfl rfl ?_
    obtain ⟨z0_, E, G⟩ := qup_g E G
    exact qt_ireturn rfl (Nat.le_of_ble_eq_true rfl) dX12_thenOf_81 E G
  · refine qt_iload 4 dX12_thenOf_16 rfl ?_
    refine qt_iload_n 1 dX12_thenOf_18 rfl rfl ?_
    refine qt_icmp_ne 32 dX12_thenOf_19 (by decide) E (fun E => ?_) (fun E => ?_)
    · exact qt_sub _ [0, 1, 2, 3, 4] rfl ((s_X12_thenOf_b32 x1 x2 x3 x4 h E G))
    · refine qt_aload_n 0 dX12_thenOf_22 rfl rfl ?_
      refine qt_getS 120 (wl_119 h) fe_RX12_7 rfl dX12_thenOf_23 ?_
      refine qt_iconst dX12_thenOf_26 ci_2 ?_
      refine qt_iald (wl_120 h) dX12_thenOf_27 E (fun E => ?_)
      refine qt_iconst dX12_thenOf_28 ci_1 ?_
      refine qt_icmp_ne 36 dX12_thenOf_29 (by decide) E (fun E => ?_) (fun E => ?_)
      · refine qt_iconst dX12_thenOf_36 ci_0 ?_
        exact qt_sub _ [0, 1, 2, 3, 4] rfl ((s_X12_thenOf_b37 x1 x2 x3 x4 (0 : Int32) h E G))
      · exact qt_sub _ [0, 1, 2, 3, 4] rfl ((s_X12_thenOf_b32 x1 x2 x3 x4 h E G))
noncomputable def f_X12_thenOf_b5_loop (x1 : Int32) (x2 : Int32) (x3 : Int32) (x4 : Int32) (h : qa_M) : Option (Int32 × qa_M) := qlp (fun sz : Int32 × Int32 × Int32 × Int32 × qa_M => f_X12_thenOf_b5 sz.1 sz.2.1 sz.2.2.1 sz.2.2.2.1 sz.2.2.2.2) (x1, x2, x3, x4, h)
theorem s_X12_thenOf_b5_loop {l : Launch} {g : qa_G} {d : Nat} {rz : Option Value} {hz : qa_M} (x1 : Int32) (x2 : Int32) (x3 : Int32) (x4 : Int32) (h : qa_M) {z : (Int32 × qa_M)} (E : f_X12_thenOf_b5_loop x1 x2 x3 x4 h = some z) (G : (qg_i rz hz) z) : qt_At l g (yX12_thenOf, cX12_thenOf, 6, (some .int)) (d + 2) 0 0 5 [(0, .ref (g.1 + 119)), (1, .int x1), (2, .int x2), (3, .int x3), (4, .int x4)] [] h rz hz :=
  qlp_ind (fun sz : Int32 × Int32 × Int32 × Int32 × qa_M => qt_At l g (yX12_thenOf, cX12_thenOf, 6, (some .int)) (d + 2) 0 0 5 [(0, .ref (g.1 + 119)), (1, .int sz.1), (2, .int sz.2.1), (3, .int sz.2.2.1), (4, .int sz.2.2.2.1)] [] sz.2.2.2.2 rz hz) (fun sz E => s_X12_thenOf_b5 sz.1 sz.2.1 sz.2.2.1 sz.2.2.2.1 sz.2.2.2.2 E G) (fun sz sz2 E ih => s_X12_thenOf_b5 sz.1 sz.2.1 sz.2.2.1 sz.2.2.2.1 sz.2.2.2.2 E ih) (x1, x2, x3, x4, h) E
noncomputable def m_X12_thenOf (x1 : Int32) (x2 : Int32) (h : qa_M) : Option (Int32 × qa_M) :=
  qbd (-1 : Int32) (fun v1 : Int32 =>
  qbd (0 : Int32) (fun v3 : Int32 =>
  f_X12_thenOf_b5_loop x1 x2 v1 v3 h))
set_option maxRecDepth 20000 in
theorem c_X12_thenOf {l : Launch} {g : qa_G} {d : Nat} (x1 : Int32) (x2 : Int32) (h : qa_M) {c : Int32} {h1 : qa_M} (E : m_X12_thenOf x1 x2 h = some (c, h1)) : qt_Met l g (yX12_thenOf, cX12_thenOf, 6, (some .int)) (d + 2) 0 [.ref (g.1 + 119), .int x1, .int x2] h (some (.int c)) h1 := by
  refine qt_Met.of (plainFor_of_name (by decide)) (Nat.le_of_ble_eq_true rfl) ?_
  have G : qg_i (some (.int c)) h1 ((c, h1)) := ⟨rfl, rfl⟩
  unfold m_X12_thenOf at E
  refine qt_iconst dX12_thenOf_0 ci_m1 ?_
  refine qt_istore_n (fun v1 => [(3, .int v1), (0, .ref (g.1 + 119)), (1, .int x1), (2, .int x2)]) dX12_thenOf_1 rfl (Nat.le_of_ble_eq_true rfl) (fun _ => rfl) E (fun v1 E => ?_)
  refine qt_iconst dX12_thenOf_2 ci_0 ?_
  refine qt_istore (fun v3 => [(4, .int v3), (3, .int v1), (0, .ref (g.1 + 119)), (1, .int x1), (2, .int x2)]) dX12_thenOf_3 (Nat.le_of_ble_eq_true rfl) (fun _ => rfl) E (fun v3 E => ?_)
  exact qt_sub _ [2, 3, 4, 1, 0] rfl ((s_X12_thenOf_b5_loop x1 x2 v1 v3 h E G))
noncomputable def m_X12_then (x1 : Int32) (x2 : Int32) (x3 : Int32) (x4 : Int32) (h : qa_M) : Option (Int32 × qa_M) :=
  qbn (m_X12_isSet x1 h) (fun (c2 : Int32) (h2 : qa_M) =>
  if c2 = 0 then (
   some ((-1 : Int32), h2))
  else (
   qbn (m_X12_isHill x2 h2) (fun (c10 : Int32) (h10 : qa_M) =>
   if c10 = 0 then (
    some ((-1 : Int32), h10))
   else (
    qck (4 : Int32) 8 (
    qbn (m_X12_in x3.toInt64 (0 : Int64) ((((1 : Int32) <<< ((h10.1 120 (4 : Int32).toNatClampNeg) &&& 31)) - (1 : Int32)).toInt64) h10) (fun (c30 : Int32) (h30 : qa_M) =>
    if c30 = 0 then (
     some ((-1 : Int32), h30))
    else (
     qbn (m_X12_in x4.toInt64 (0 : Int64) (1 : Int64) h30) (fun (c41 : Int32) (h41 : qa_M) =>
     if c41 = 0 then (
      some ((-1 : Int32), h41))
     else (
      qbv (m_X12_fillsBoth x1 h41) (fun h51 : qa_M =>
      qbn (m_X12_thenOf x2 x3 h51) (fun (c57 : Int32) (h57 : qa_M) =>
      qbd c57 (fun v60 : Int32 =>
      if x4 = 0 then (
       some (v60, h57))
      else (
       qbn (m_X12_worstThen x2 x3 v60 h57) (fun (c77 : Int32) (h77 : qa_M) =>
       some (c77, h77)))))))))))))))
set_option maxRecDepth 20000 in
theorem c_X12_then {l : Launch} {g : qa_G} {d : Nat} (x1 : Int32) (x2 : Int32) (x3 : Int32) (x4 : Int32) (h : qa_M) {c : Int32} {h1 : qa_M} (E : m_X12_then x1 x2 x3 x4 h = some (c, h1)) : qt_Met l g (yX12_then, cX12_then, 6, (some .int)) (d + 8) 0 [.ref (g.1 + 119), .int x1, .int x2, .int x3, .int x4] h (some (.int c)) h1 := by
  refine qt_Met.of (plainFor_of_name (by decide)) (Nat.le_of_ble_eq_true rfl) ?_
  have G : qg_i (some (.int c)) h1 ((c, h1)) := ⟨rfl, rfl⟩
  unfold m_X12_then at E
  refine qt_aload_n 0 dX12_then_0 rfl rfl ?_
  refine qt_iload_n 1 dX12_then_1 rfl rfl ?_
  obtain ⟨c2, h2, e2, E⟩ := qbn_el E
  refine qt_callVi (b2 := 0) [.int x1] (c_X12_isSet x1 h e2) cv_RX12_452 (wl_119 h) rfl rfl rfl (Nat.le_of_ble_eq_true rfl) (Nat.le_of_ble_eq_true rfl) dX12_then_2 ?_
  refine qt_if_eq 47 dX12_then_5 (by decide) E (fun E => ?_) (fun E => ?_)
  · refine qt_iconst dX12_then_47 ci_m1 ?_
    exact qt_ireturn rfl (Nat.le_of_ble_eq_true rfl) dX12_then_48 E G
  · refine qt_aload_n 0 dX12_then_8 rfl rfl ?_
    refine qt_iload_n 2 dX12_then_9 rfl rfl ?_
    obtain ⟨c10, h10, e10, E⟩ := qbn_el E
    refine qt_callVi (b2 := 0) [.int x2] (c_X12_isHill x2 h2 e10) cv_RX12_194 (wl_119 h2) rfl rfl rfl (Nat.le_of_ble_eq_true rfl) (Nat.le_of_ble_eq_true rfl) dX12_then_10 ?_
    refine qt_if_eq 47 dX12_then_13 (by decide) E (fun E => ?_) (fun E => ?_)
    · refine qt_iconst dX12_then_47 ci_m1 ?_
      exact qt_ireturn rfl (Nat.le_of_ble_eq_true rfl) dX12_then_48 E G
    · refine qt_iload_n 3 dX12_then_16 rfl rfl ?_
      refine qt_i2l dX12_then_17 ?_
      refine qt_lconst dX12_then_18 cl_0 ?_
      refine qt_iconst dX12_then_19 ci_1 ?_
      refine qt_aload_n 0 dX12_then_20 rfl rfl ?_
      refine qt_getS 120 (wl_119 h10) fe_RX12_7 rfl dX12_then_21 ?_
      refine qt_iconst dX12_then_24 ci_4 ?_
      refine qt_iald (wl_120 h10) dX12_then_25 E (fun E => ?_)
      refine qt_ishl dX12_then_26 ?_
      refine qt_iconst dX12_then_27 ci_1 ?_
      refine qt_isub dX12_then_28 ?_
      refine qt_i2l dX12_then_29 ?_
      obtain ⟨c30, h30, e30, E⟩ := qbn_el E
      refine qt_callSi (b2 := 0) [.long x3.toInt64, .long (0 : Int64), .long ((((1 : Int32) <<< ((h10.1 120 (4 : Int32).toNatClampNeg) &&& 31)) - (1 : Int32)).toInt64)] (c_X12_in x3.toInt64 (0 : Int64) ((((1 : Int32) <<< ((h10.1 120 (4 : Int32).toNatClampNeg) &&& 31)) - (1 : Int32)).toInt64) h10 e30) cv_RX12_161 rfl (Nat.le_of_ble_eq_true rfl) (Nat.le_of_ble_eq_true rfl) dX12_then_30 ?_
      refine qt_if_eq 47 dX12_then_33 (by decide) E (fun E => ?_) (fun E => ?_)
      · refine qt_iconst dX12_then_47 ci_m1 ?_
        exact qt_ireturn rfl (Nat.le_of_ble_eq_true rfl) dX12_then_48 E G
      · refine qt_iload 4 dX12_then_36 rfl ?_
        refine qt_i2l dX12_then_38 ?_
        refine qt_lconst dX12_then_39 cl_0 ?_
        refine qt_lconst dX12_then_40 cl_1 ?_
        obtain ⟨c41, h41, e41, E⟩ := qbn_el E
        refine qt_callSi (b2 := 0) [.long x4.toInt64, .long (0 : Int64), .long (1 : Int64)] (c_X12_in x4.toInt64 (0 : Int64) (1 : Int64) h30 e41) cv_RX12_161 rfl (Nat.le_of_ble_eq_true rfl) (Nat.le_of_ble_eq_true rfl) dX12_then_41 ?_
        refine qt_if_ne 49 dX12_then_44 (by decide) E (fun E => ?_) (fun E => ?_)
        · refine qt_aload_n 0 dX12_then_49 rfl rfl ?_
          refine qt_iload_n 1 dX12_then_50 rfl rfl ?_
          obtain ⟨h51, e51, E⟩ := qbv_el E
          refine qt_callVv (b2 := 0) [.int x1] (c_X12_fillsBoth x1 h41 e51) cv_RX12_493 (wl_119 h41) rfl rfl rfl (Nat.le_of_ble_eq_true rfl) (Nat.le_of_ble_eq_true rfl) dX12_then_51 ?_
          refine qt_aload_n 0 dX12_then_54 rfl rfl ?_
          refine qt_iload_n 2 dX12_then_55 rfl rfl ?_
          refine qt_iload_n 3 dX12_then_56 rfl rfl ?_
          obtain ⟨c57, h57, e57, E⟩ := qbn_el E
          refine qt_callVi (b2 := 0) [.int x2, .int x3] (c_X12_thenOf x2 x3 h51 e57) cv_RX12_503 (wl_119 h51) rfl rfl rfl (Nat.le_of_ble_eq_true rfl) (Nat.le_of_ble_eq_true rfl) dX12_then_57 ?_
          refine qt_istore (fun v60 => [(5, .int v60), (0, .ref (g.1 + 119)), (1, .int x1), (2, .int x2), (3, .int x3), (4, .int x4)]) dX12_then_60 (Nat.le_of_ble_eq_true rfl) (fun _ => rfl) E (fun v60 E => ?_)
          refine qt_iload 5 dX12_then_62 rfl ?_
          refine qt_if_ne 72 dX12_then_64 (by decide) E (fun E => ?_) (fun E => ?_)
          · refine qt_aload_n 1 dX12_then_72 rfl rfl ?_
            refine qt_iload_n 3 dX12_then_73 rfl rfl ?_
            refine qt_iload_n 4 dX12_then_74 rfl rfl ?_
            refine qt_iload 0 dX12_then_75 rfl ?_
            obtain ⟨c77, h77, e77, E⟩ := qbn_el E
            refine qt_callVi (b2 := 0) [.int x2, .int x3, .int v60] (c_X12_worstThen x2 x3 v60 h57 e77) cv_RX12_499 (wl_119 h57) rfl rfl rfl (Nat.le_of_ble_eq_true rfl) (Nat.le_of_ble_eq_true rfl) dX12_then_77 ?_
            exact qt_ireturn rfl (Nat.le_of_ble_eq_true rfl) dX12_then_80 E G
          · refine qt_iload 0 dX12_then_67 rfl ?_
            refine qt_goto 80 dX12_then_69 (by decide) ?_
            exact qt_ireturn rfl (Nat.le_of_ble_eq_true rfl) dX12_then_80 E G
        · refine qt_iconst dX12_then_47 ci_m1 ?_
          exact qt_ireturn rfl (Nat.le_of_ble_eq_true rfl) dX12_then_48 E G
noncomputable def f_X12_planOf_b55 (x1 : Int32) (x3 : Int32) (s0 : Int32) (h : qa_M) : Option ((Int32 × Int32 × Int32 × qa_M) ⊕ (Int32 × qa_M)) :=
  qbd s0 (fun v55 : Int32 =>
  qbd (x3 + (1 : Int32)) (fun v56 : Int32 =>
  some (.inl (x1, v55, v56, h))))
set_option maxRecDepth 20000 in
theorem s_X12_planOf_b55 {l : Launch} {g : qa_G} {d : Nat} {rz : Option Value} {hz : qa_M} (x1 : Int32) (x3 : Int32) (s0 : Int32) (h : qa_M) {z : ((Int32 × Int32 × Int32 × qa_M) ⊕ (Int32 × qa_M))} (E : f_X12_planOf_b55 x1 x3 s0 h = some z) (G : (Sum.elim (fun (sz : Int32 × Int32 × Int32 × qa_M) => qt_At l g (yX12_planOf, cX12_planOf, 5, (some .int)) (d + 3) 0 0 4 [(0, .ref (g.1 + 119)), (1, .int sz.1), (2, .int sz.2.1), (3, .int sz.2.2.1)] [] sz.2.2.2 rz hz) (qg_i rz hz)) z) : qt_At l g (yX12_planOf, cX12_planOf, 5, (some .int)) (d + 3) 0 0 55 [(0, .ref (g.1 + 119)), (1, .int x1), (3, .int x3)] [.int s0] h rz hz := by
  unfold f_X12_planOf_b55 at E
  refine qt_istore_n (fun v55 => [(2, .int v55), (0, .ref (g.1 + 119)), (1, .int x1), (3, .int x3)]) dX12_planOf_55 rfl (Nat.le_of_ble_eq_true rfl) (fun _ => rfl) E (fun v55 E => ?_)
  refine qt_iinc 3 (fun v56 => [(3, .int v56), (2, .int v55), (0, .ref (g.1 + 119)), (1, .int x1)]) dX12_planOf_56 rfl ci_1 (Nat.le_of_ble_eq_true rfl) (fun _ => rfl) E (fun v56 E => ?_)
  refine qt_goto 4 dX12_planOf_59 (by decide) ?_
  cases E
  exact qt_sub _ [2, 3, 1, 0] rfl (G)
noncomputable def f_X12_planOf_b41 (x1 : Int32) (x2 : Int32) (x3 : Int32) (s0 : Int32) (h : qa_M) : Option ((Int32 × Int32 × Int32 × qa_M) ⊕ (Int32 × qa_M)) :=
  qbd s0 (fun v41 : Int32 =>
  if v41 ≤ x2 then (
   f_X12_planOf_b55 x1 x3 x2 h)
  else (
   f_X12_planOf_b55 x1 x3 v41 h))
set_option maxRecDepth 20000 in
theorem s_X12_planOf_b41 {l : Launch} {g : qa_G} {d : Nat} {rz : Option Value} {hz : qa_M} (x1 : Int32) (x2 : Int32) (x3 : Int32) (s0 : Int32) (h : qa_M) {z : ((Int32 × Int32 × Int32 × qa_M) ⊕ (Int32 × qa_M))} (E : f_X12_planOf_b41 x1 x2 x3 s0 h = some z) (G : (Sum.elim (fun (sz : Int32 × Int32 × Int32 × qa_M) => qt_At l g (yX12_planOf, cX12_planOf, 5, (some .int)) (d + 3) 0 0 4 [(0, .ref (g.1 + 119)), (1, .int sz.1), (2, .int sz.2.1), (3, .int sz.2.2.1)] [] sz.2.2.2 rz hz) (qg_i rz hz)) z) : qt_At l g (yX12_planOf, cX12_planOf, 5, (some .int)) (d + 3) 0 0 41 [(0, .ref (g.1 + 119)), (1, .int x1), (2, .int x2), (3, .int x3)] [.int s0] h rz hz := by
  unfold f_X12_planOf_b41 at E
  refine qt_istore (fun v41 => [(4, .int v41), (0, .ref (g.1 + 119)), (1, .int x1), (2, .int x2), (3, .int x3)]) dX12_planOf_41 (Nat.le_of_ble_eq_true rfl) (fun _ => rfl) E (fun v41 E => ?_)
  refine qt_iload 0 dX12_planOf_43 rfl ?_
  refine qt_iload_n 3 dX12_planOf_45 rfl rfl ?_
  refine qt_icmp_le 54 dX12_planOf_46 (by decide) E (fun E => ?_) (fun E => ?_)
  · refine qt_iload_n 3 dX12_planOf_54 rfl rfl ?_
    exact qt_sub _ [1, 2, 4] rfl ((s_X12_planOf_b55 x1 x3 x2 h E G))
  · refine qt_iload 0 dX12_planOf_49 rfl ?_
    refine qt_goto 55 dX12_planOf_51 (by decide) ?_
    exact qt_sub _ [1, 2, 4] rfl ((s_X12_planOf_b55 x1 x3 v41 h E G))
noncomputable def f_X12_planOf_b4 (x1 : Int32) (x2 : Int32) (x3 : Int32) (h : qa_M) : Option ((Int32 × Int32 × Int32 × qa_M) ⊕ (Int32 × qa_M)) :=
  if (16 : Int32) ≤ x3 then (
   qup (some (x2, h)))
  else (
   qbn (m_X12_cell x1 x3 x1 x3 h) (fun (c18 : Int32) (h18 : qa_M) =>
   qck c18 16384 (
   if (h18.1 159 c18.toNatClampNeg) ≤ 0 then (
    f_X12_planOf_b41 x1 x2 x3 (0 : Int32) h18)
   else (
    qbn (m_X12_thenOf x1 x3 h18) (fun (c31 : Int32) (h31 : qa_M) =>
    qbn (m_X12_worstThen x1 x3 c31 h31) (fun (c34 : Int32) (h34 : qa_M) =>
    f_X12_planOf_b41 x1 x2 x3 c34 h34))))))
set_option maxRecDepth 20000 in
theorem s_X12_planOf_b4 {l : Launch} {g : qa_G} {d : Nat} {rz : Option Value} {hz : qa_M} (x1 : Int32) (x2 : Int32) (x3 : Int32) (h : qa_M) {z : ((Int32 × Int32 × Int32 × qa_M) ⊕ (Int32 × qa_M))} (E : f_X12_planOf_b4 x1 x2 x3 h = some z) (G : (Sum.elim (fun (sz : Int32 × Int32 × Int32 × qa_M) => qt_At l g (yX12_planOf, cX12_planOf, 5, (some .int)) (d + 3) 0 0 4 [(0, .ref (g.1 + 119)), (1, .int sz.1), (2, .int sz.2.1), (3, .int sz.2.2.1)] [] sz.2.2.2 rz hz) (qg_i rz hz)) z) : qt_At l g (yX12_planOf, cX12_planOf, 5, (some .int)) (d + 3) 0 0 4 [(0, .ref (g.1 + 119)), (1, .int x1), (2, .int x2), (3, .int x3)] [] h rz hz := by
  unfold f_X12_planOf_b4 at E
  refine qt_iload_n 3 dX12_planOf_4 rfl rfl ?_
  refine qt_bipush dX12_planOf_5 cb_16 ?_
  refine qt_icmp_ge 62 dX12_planOf_7 (by decide) E (fun E => ?_) (fun E => ?_)
  · refine qt_iload_n 2 dX12_planOf_62 rfl rfl ?_
    obtain ⟨z0_, E, G⟩ := qup_g E G
    exact qt_ireturn rfl (Nat.le_of_ble_eq_true rfl) dX12_planOf_63 E G
  · refine qt_aload_n 0 dX12_planOf_10 rfl rfl ?_
    refine qt_getS 159 (wl_119 h) fe_RX12_133 rfl dX12_planOf_11 ?_
    refine qt_iload_n 1 dX12_planOf_14 rfl rfl ?_
    refine qt_iload_n 3 dX12_planOf_15 rfl rfl ?_
    refine qt_iload_n 1 dX12_planOf_16 rfl rfl ?_
    refine qt_iload_n 3 dX12_planOf_17 rfl rfl ?_
    obtain ⟨c18, h18, e18, E⟩ := qbn_el E
    refine qt_callSi (b2 := 0) [.int x1, .int x3, .int x1, .int x3] (c_X12_cell x1 x3 x1 x3 h e18) cv_RX12_489 rfl (Nat.le_of_ble_eq_true rfl) (Nat.le_of_ble_eq_true rfl) dX12_planOf_18 ?_
    refine qt_iald (wl_159 h18) dX12_planOf_21 E (fun E => ?_)
    refine qt_if_le 40 dX12_planOf_22 (by decide) E (fun E => ?_) (fun E => ?_)
    · refine qt_iconst dX12_planOf_40 ci_0 ?_
      exact qt_sub _ [0, 1, 2, 3] rfl ((s_X12_planOf_b41 x1 x2 x3 (0 : Int32) h18 E G))
    · refine qt_aload_n 0 dX12_planOf_25 rfl rfl ?_
      refine qt_iload_n 1 dX12_planOf_26 rfl rfl ?_
      refine qt_iload_n 3 dX12_planOf_27 rfl rfl ?_
      refine qt_aload_n 0 dX12_planOf_28 rfl rfl ?_
      refine qt_iload_n 1 dX12_planOf_29 rfl rfl ?_
      refine qt_iload_n 3 dX12_planOf_30 rfl rfl ?_
      obtain ⟨c31, h31, e31, E⟩ := qbn_el E
      refine qt_callVi (b2 := 0) [.int x1, .int x3] (c_X12_thenOf x1 x3 h18 e31) cv_RX12_503 (wl_119 h18) rfl rfl rfl (Nat.le_of_ble_eq_true rfl) (Nat.le_of_ble_eq_true rfl) dX12_planOf_31 ?_
      obtain ⟨c34, h34, e34, E⟩ := qbn_el E
      refine qt_callVi (b2 := 0) [.int x1, .int x3, .int c31] (c_X12_worstThen x1 x3 c31 h31 e34) cv_RX12_499 (wl_119 h31) rfl rfl rfl (Nat.le_of_ble_eq_true rfl) (Nat.le_of_ble_eq_true rfl) dX12_planOf_34 ?_
      refine qt_goto 41 dX12_planOf_37 (by decide) ?_
      exact qt_sub _ [0, 1, 2, 3] rfl ((s_X12_planOf_b41 x1 x2 x3 c34 h34 E G))
noncomputable def f_X12_planOf_b4_loop (x1 : Int32) (x2 : Int32) (x3 : Int32) (h : qa_M) : Option (Int32 × qa_M) := qlp (fun sz : Int32 × Int32 × Int32 × qa_M => f_X12_planOf_b4 sz.1 sz.2.1 sz.2.2.1 sz.2.2.2) (x1, x2, x3, h)
theorem s_X12_planOf_b4_loop {l : Launch} {g : qa_G} {d : Nat} {rz : Option Value} {hz : qa_M} (x1 : Int32) (x2 : Int32) (x3 : Int32) (h : qa_M) {z : (Int32 × qa_M)} (E : f_X12_planOf_b4_loop x1 x2 x3 h = some z) (G : (qg_i rz hz) z) : qt_At l g (yX12_planOf, cX12_planOf, 5, (some .int)) (d + 3) 0 0 4 [(0, .ref (g.1 + 119)), (1, .int x1), (2, .int x2), (3, .int x3)] [] h rz hz :=
  qlp_ind (fun sz : Int32 × Int32 × Int32 × qa_M => qt_At l g (yX12_planOf, cX12_planOf, 5, (some .int)) (d + 3) 0 0 4 [(0, .ref (g.1 + 119)), (1, .int sz.1), (2, .int sz.2.1), (3, .int sz.2.2.1)] [] sz.2.2.2 rz hz) (fun sz E => s_X12_planOf_b4 sz.1 sz.2.1 sz.2.2.1 sz.2.2.2 E G) (fun sz sz2 E ih => s_X12_planOf_b4 sz.1 sz.2.1 sz.2.2.1 sz.2.2.2 E ih) (x1, x2, x3, h) E
noncomputable def m_X12_planOf (x1 : Int32) (h : qa_M) : Option (Int32 × qa_M) :=
  qbd (0 : Int32) (fun v1 : Int32 =>
  qbd (0 : Int32) (fun v3 : Int32 =>
  f_X12_planOf_b4_loop x1 v1 v3 h))
set_option maxRecDepth 20000 in
theorem c_X12_planOf {l : Launch} {g : qa_G} {d : Nat} (x1 : Int32) (h : qa_M) {c : Int32} {h1 : qa_M} (E : m_X12_planOf x1 h = some (c, h1)) : qt_Met l g (yX12_planOf, cX12_planOf, 5, (some .int)) (d + 3) 0 [.ref (g.1 + 119), .int x1] h (some (.int c)) h1 := by
  refine qt_Met.of (plainFor_of_name (by decide)) (Nat.le_of_ble_eq_true rfl) ?_
  have G : qg_i (some (.int c)) h1 ((c, h1)) := ⟨rfl, rfl⟩
  unfold m_X12_planOf at E
  refine qt_iconst dX12_planOf_0 ci_0 ?_
  refine qt_istore_n (fun v1 => [(2, .int v1), (0, .ref (g.1 + 119)), (1, .int x1)]) dX12_planOf_1 rfl (Nat.le_of_ble_eq_true rfl) (fun _ => rfl) E (fun v1 E => ?_)
  refine qt_iconst dX12_planOf_2 ci_0 ?_
  refine qt_istore_n (fun v3 => [(3, .int v3), (2, .int v1), (0, .ref (g.1 + 119)), (1, .int x1)]) dX12_planOf_3 rfl (Nat.le_of_ble_eq_true rfl) (fun _ => rfl) E (fun v3 E => ?_)
  exact qt_sub _ [2, 3, 1, 0] rfl ((s_X12_planOf_b4_loop x1 v1 v3 h E G))
noncomputable def f_X12_plan_b85 (x3 : Int32) (h : qa_M) : Option (Int32 × qa_M) :=
  some (x3, h)
set_option maxRecDepth 20000 in
theorem s_X12_plan_b85 {l : Launch} {g : qa_G} {d : Nat} {rz : Option Value} {hz : qa_M} (x3 : Int32) (h : qa_M) {z : (Int32 × qa_M)} (E : f_X12_plan_b85 x3 h = some z) (G : (qg_i rz hz) z) : qt_At l g (yX12_plan, cX12_plan, 5, (some .int)) (d + 8) 0 0 85 [(3, .int x3)] [] h rz hz := by
  unfold f_X12_plan_b85 at E
  refine qt_iload_n 0 dX12_plan_85 rfl rfl ?_
  refine qt_goto 94 dX12_plan_86 (by decide) ?_
  exact qt_ireturn rfl (Nat.le_of_ble_eq_true rfl) dX12_plan_94 E G
noncomputable def f_X12_plan_b75 (x2 : Int32) (x3 : Int32) (h : qa_M) : Option (Int32 × qa_M) :=
  if x3 = (-2 : Int32) then (
   f_X12_plan_b85 x3 h)
  else (
   if x2 = 0 then (
    f_X12_plan_b85 x3 h)
   else (
    qbn (m_X12_planOf x3 h) (fun (c91 : Int32) (h91 : qa_M) =>
    some (c91, h91))))
set_option maxRecDepth 20000 in
theorem s_X12_plan_b75 {l : Launch} {g : qa_G} {d : Nat} {rz : Option Value} {hz : qa_M} (x2 : Int32) (x3 : Int32) (h : qa_M) {z : (Int32 × qa_M)} (E : f_X12_plan_b75 x2 x3 h = some z) (G : (qg_i rz hz) z) : qt_At l g (yX12_plan, cX12_plan, 5, (some .int)) (d + 8) 0 0 75 [(0, .ref (g.1 + 119)), (2, .int x2), (3, .int x3)] [] h rz hz := by
  unfold f_X12_plan_b75 at E
  refine qt_iload_n 2 dX12_plan_75 rfl rfl ?_
  refine qt_bipush dX12_plan_76 cb_m2 ?_
  refine qt_icmp_eq 85 dX12_plan_78 (by decide) E (fun E => ?_) (fun E => ?_)
  · exact qt_sub _ [2] rfl ((s_X12_plan_b85 x3 h E G))
  · refine qt_iload_n 1 dX12_plan_81 rfl rfl ?_
    refine qt_if_ne 89 dX12_plan_82 (by decide) E (fun E => ?_) (fun E => ?_)
    · refine qt_aload_n 0 dX12_plan_89 rfl rfl ?_
      refine qt_iload_n 2 dX12_plan_90 rfl rfl ?_
      obtain ⟨c91, h91, e91, E⟩ := qbn_el E
      refine qt_callVi (b2 := 0) [.int x3] (c_X12_planOf x3 h e91) cv_RX12_506 (wl_119 h) rfl rfl rfl (Nat.le_of_ble_eq_true rfl) (Nat.le_of_ble_eq_true rfl) dX12_plan_91 ?_
      exact qt_ireturn rfl (Nat.le_of_ble_eq_true rfl) dX12_plan_94 E G
    · exact qt_sub _ [2] rfl ((s_X12_plan_b85 x3 h E G))
noncomputable def f_X12_plan_b68 (x2 : Int32) (x4 : Int32) (s0 : Int32) (h : qa_M) : Option ((Int32 × Int32 × Int32 × qa_M) ⊕ (Int32 × qa_M)) :=
  qbd s0 (fun v68 : Int32 =>
  qbd (x4 + (1 : Int32)) (fun v69 : Int32 =>
  some (.inl (x2, v68, v69, h))))
set_option maxRecDepth 20000 in
theorem s_X12_plan_b68 {l : Launch} {g : qa_G} {d : Nat} {rz : Option Value} {hz : qa_M} (x2 : Int32) (x4 : Int32) (s0 : Int32) (h : qa_M) {z : ((Int32 × Int32 × Int32 × qa_M) ⊕ (Int32 × qa_M))} (E : f_X12_plan_b68 x2 x4 s0 h = some z) (G : (Sum.elim (fun (sz : Int32 × Int32 × Int32 × qa_M) => qt_At l g (yX12_plan, cX12_plan, 5, (some .int)) (d + 8) 0 0 31 [(0, .ref (g.1 + 119)), (2, .int sz.1), (3, .int sz.2.1), (4, .int sz.2.2.1)] [] sz.2.2.2 rz hz) (qg_i rz hz)) z) : qt_At l g (yX12_plan, cX12_plan, 5, (some .int)) (d + 8) 0 0 68 [(0, .ref (g.1 + 119)), (2, .int x2), (4, .int x4)] [.int s0] h rz hz := by
  unfold f_X12_plan_b68 at E
  refine qt_istore_n (fun v68 => [(3, .int v68), (0, .ref (g.1 + 119)), (2, .int x2), (4, .int x4)]) dX12_plan_68 rfl (Nat.le_of_ble_eq_true rfl) (fun _ => rfl) E (fun v68 E => ?_)
  refine qt_iinc 3 (fun v69 => [(4, .int v69), (3, .int v68), (0, .ref (g.1 + 119)), (2, .int x2)]) dX12_plan_69 rfl ci_1 (Nat.le_of_ble_eq_true rfl) (fun _ => rfl) E (fun v69 E => ?_)
  refine qt_goto 31 dX12_plan_72 (by decide) ?_
  cases E
  exact qt_sub _ [2, 3, 1, 0] rfl (G)
noncomputable def f_X12_plan_b62 (x2 : Int32) (x4 : Int32) (h : qa_M) : Option ((Int32 × Int32 × Int32 × qa_M) ⊕ (Int32 × qa_M)) :=
  f_X12_plan_b68 x2 x4 x4 h
set_option maxRecDepth 20000 in
theorem s_X12_plan_b62 {l : Launch} {g : qa_G} {d : Nat} {rz : Option Value} {hz : qa_M} (x2 : Int32) (x4 : Int32) (h : qa_M) {z : ((Int32 × Int32 × Int32 × qa_M) ⊕ (Int32 × qa_M))} (E : f_X12_plan_b62 x2 x4 h = some z) (G : (Sum.elim (fun (sz : Int32 × Int32 × Int32 × qa_M) => qt_At l g (yX12_plan, cX12_plan, 5, (some .int)) (d + 8) 0 0 31 [(0, .ref (g.1 + 119)), (2, .int sz.1), (3, .int sz.2.1), (4, .int sz.2.2.1)] [] sz.2.2.2 rz hz) (qg_i rz hz)) z) : qt_At l g (yX12_plan, cX12_plan, 5, (some .int)) (d + 8) 0 0 62 [(0, .ref (g.1 + 119)), (2, .int x2), (4, .int x4)] [] h rz hz := by
  unfold f_X12_plan_b62 at E
  refine qt_iload 2 dX12_plan_62 rfl ?_
  refine qt_goto 68 dX12_plan_64 (by decide) ?_
  exact qt_sub _ [0, 1, 2] rfl ((s_X12_plan_b68 x2 x4 x4 h E G))
noncomputable def f_X12_plan_b31 (x2 : Int32) (x3 : Int32) (x4 : Int32) (h : qa_M) : Option ((Int32 × Int32 × Int32 × qa_M) ⊕ (Int32 × qa_M)) :=
  qck (2 : Int32) 8 (
  if (h.1 120 (2 : Int32).toNatClampNeg) ≤ x4 then (
   qup (f_X12_plan_b75 x2 x3 h))
  else (
   if x3 = (-2 : Int32) then (
    f_X12_plan_b62 x2 x4 h)
   else (
    qbn (m_X12_planOf x4 h) (fun (c51 : Int32) (h51 : qa_M) =>
    qbn (m_X12_planOf x3 h51) (fun (c56 : Int32) (h56 : qa_M) =>
    if c56 ≤ c51 then (
     f_X12_plan_b68 x2 x4 x3 h56)
    else (
     f_X12_plan_b62 x2 x4 h56))))))
set_option maxRecDepth 20000 in
theorem s_X12_plan_b31 {l : Launch} {g : qa_G} {d : Nat} {rz : Option Value} {hz : qa_M} (x2 : Int32) (x3 : Int32) (x4 : Int32) (h : qa_M) {z : ((Int32 × Int32 × Int32 × qa_M) ⊕ (Int32 × qa_M))} (E : f_X12_plan_b31 x2 x3 x4 h = some z) (G : (Sum.elim (fun (sz : Int32 × Int32 × Int32 × qa_M) => qt_At l g (yX12_plan, cX12_plan, 5, (some .int)) (d + 8) 0 0 31 [(0, .ref (g.1 + 119)), (2, .int sz.1), (3, .int sz.2.1), (4, .int sz.2.2.1)] [] sz.2.2.2 rz hz) (qg_i rz hz)) z) : qt_At l g (yX12_plan, cX12_plan, 5, (some .int)) (d + 8) 0 0 31 [(0, .ref (g.1 + 119)), (2, .int x2), (3, .int x3), (4, .int x4)] [] h rz hz := by
  unfold f_X12_plan_b31 at E
  refine qt_iload 3 dX12_plan_31 rfl ?_
  refine qt_aload_n 0 dX12_plan_33 rfl rfl ?_
  refine qt_getS 120 (wl_119 h) fe_RX12_7 rfl dX12_plan_34 ?_
  refine qt_iconst dX12_plan_37 ci_2 ?_
  refine qt_iald (wl_120 h) dX12_plan_38 E (fun E => ?_)
  refine qt_icmp_ge 75 dX12_plan_39 (by decide) E (fun E => ?_) (fun E => ?_)
  · obtain ⟨z0_, E, G⟩ := qup_g E G
    exact qt_sub _ [0, 1, 2] rfl ((s_X12_plan_b75 x2 x3 h E G))
  · refine qt_iload_n 2 dX12_plan_42 rfl rfl ?_
    refine qt_bipush dX12_plan_43 cb_m2 ?_
    refine qt_icmp_eq 62 dX12_plan_45 (by decide) E (fun E => ?_) (fun E => ?_)
    · exact qt_sub _ [0, 1, 3] rfl ((s_X12_plan_b62 x2 x4 h E G))
    · refine qt_aload_n 0 dX12_plan_48 rfl rfl ?_
      refine qt_iload 3 dX12_plan_49 rfl ?_
      obtain ⟨c51, h51, e51, E⟩ := qbn_el E
      refine qt_callVi (b2 := 0) [.int x4] (c_X12_planOf x4 h e51) cv_RX12_506 (wl_119 h) rfl rfl rfl (Nat.le_of_ble_eq_true rfl) (Nat.le_of_ble_eq_true rfl) dX12_plan_51 ?_
      refine qt_aload_n 0 dX12_plan_54 rfl rfl ?_
      refine qt_iload_n 2 dX12_plan_55 rfl rfl ?_
      obtain ⟨c56, h56, e56, E⟩ := qbn_el E
      refine qt_callVi (b2 := 0) [.int x3] (c_X12_planOf x3 h51 e56) cv_RX12_506 (wl_119 h51) rfl rfl rfl (Nat.le_of_ble_eq_true rfl) (Nat.le_of_ble_eq_true rfl) dX12_plan_56 ?_
      refine qt_icmp_ge 67 dX12_plan_59 (by decide) E (fun E => ?_) (fun E => ?_)
      · refine qt_iload_n 2 dX12_plan_67 rfl rfl ?_
        exact qt_sub _ [0, 1, 3] rfl ((s_X12_plan_b68 x2 x4 x3 h56 E G))
      · exact qt_sub _ [0, 1, 3] rfl ((s_X12_plan_b62 x2 x4 h56 E G))
noncomputable def f_X12_plan_b31_loop (x2 : Int32) (x3 : Int32) (x4 : Int32) (h : qa_M) : Option (Int32 × qa_M) := qlp (fun sz : Int32 × Int32 × Int32 × qa_M => f_X12_plan_b31 sz.1 sz.2.1 sz.2.2.1 sz.2.2.2) (x2, x3, x4, h)
theorem s_X12_plan_b31_loop {l : Launch} {g : qa_G} {d : Nat} {rz : Option Value} {hz : qa_M} (x2 : Int32) (x3 : Int32) (x4 : Int32) (h : qa_M) {z : (Int32 × qa_M)} (E : f_X12_plan_b31_loop x2 x3 x4 h = some z) (G : (qg_i rz hz) z) : qt_At l g (yX12_plan, cX12_plan, 5, (some .int)) (d + 8) 0 0 31 [(0, .ref (g.1 + 119)), (2, .int x2), (3, .int x3), (4, .int x4)] [] h rz hz :=
  qlp_ind (fun sz : Int32 × Int32 × Int32 × qa_M => qt_At l g (yX12_plan, cX12_plan, 5, (some .int)) (d + 8) 0 0 31 [(0, .ref (g.1 + 119)), (2, .int sz.1), (3, .int sz.2.1), (4, .int sz.2.2.1)] [] sz.2.2.2 rz hz) (fun sz E => s_X12_plan_b31 sz.1 sz.2.1 sz.2.2.1 sz.2.2.2 E G) (fun sz sz2 E ih => s_X12_plan_b31 sz.1 sz.2.1 sz.2.2.1 sz.2.2.2 E ih) (x2, x3, x4, h) E
noncomputable def m_X12_plan (x1 : Int32) (x2 : Int32) (h : qa_M) : Option (Int32 × qa_M) :=
  qbn (m_X12_isSet x1 h) (fun (c2 : Int32) (h2 : qa_M) =>
  if c2 = 0 then (
   some ((-1 : Int32), h2))
  else (
   qbn (m_X12_in x2.toInt64 (0 : Int64) (1 : Int64) h2) (fun (c12 : Int32) (h12 : qa_M) =>
   if c12 = 0 then (
    some ((-1 : Int32), h12))
   else (
    qbv (m_X12_fillsBoth x1 h12) (fun h22 : qa_M =>
    qbd (-2 : Int32) (fun v27 : Int32 =>
    qbd (0 : Int32) (fun v29 : Int32 =>
    f_X12_plan_b31_loop x2 v27 v29 h22)))))))
set_option maxRecDepth 20000 in
theorem c_X12_plan {l : Launch} {g : qa_G} {d : Nat} (x1 : Int32) (x2 : Int32) (h : qa_M) {c : Int32} {h1 : qa_M} (E : m_X12_plan x1 x2 h = some (c, h1)) : qt_Met l g (yX12_plan, cX12_plan, 5, (some .int)) (d + 8) 0 [.ref (g.1 + 119), .int x1, .int x2] h (some (.int c)) h1 := by
  refine qt_Met.of (plainFor_of_name (by decide)) (Nat.le_of_ble_eq_true rfl) ?_
  have G : qg_i (some (.int c)) h1 ((c, h1)) := ⟨rfl, rfl⟩
  unfold m_X12_plan at E
  refine qt_aload_n 0 dX12_plan_0 rfl rfl ?_
  refine qt_iload_n 1 dX12_plan_1 rfl rfl ?_
  obtain ⟨c2, h2, e2, E⟩ := qbn_el E
  refine qt_callVi (b2 := 0) [.int x1] (c_X12_isSet x1 h e2) cv_RX12_452 (wl_119 h) rfl rfl rfl (Nat.le_of_ble_eq_true rfl) (Nat.le_of_ble_eq_true rfl) dX12_plan_2 ?_
  refine qt_if_eq 18 dX12_plan_5 (by decide) E (fun E => ?_) (fun E => ?_)
  · refine qt_iconst dX12_plan_18 ci_m1 ?_
    exact qt_ireturn rfl (Nat.le_of_ble_eq_true rfl) dX12_plan_19 E G
  · refine qt_iload_n 2 dX12_plan_8 rfl rfl ?_
    refine qt_i2l dX12_plan_9 ?_
    refine qt_lconst dX12_plan_10 cl_0 ?_
    refine qt_lconst dX12_plan_11 cl_1 ?_
    obtain ⟨c12, h12, e12, E⟩ := qbn_el E
    refine qt_callSi (b2 := 0) [.long x2.toInt64, .long (0 : Int64), .long (1 : Int64)] (c_X12_in x2.toInt64 (0 : Int64) (1 : Int64) h2 e12) cv_RX12_161 rfl (Nat.le_of_ble_eq_true rfl) (Nat.le_of_ble_eq_true rfl) dX12_plan_12 ?_
    refine qt_if_ne 20 dX12_plan_15 (by decide) E (fun E => ?_) (fun E => ?_)
    · refine qt_aload_n 0 dX12_plan_20 rfl rfl ?_
      refine qt_iload_n 1 dX12_plan_21 rfl rfl ?_
      obtain ⟨h22, e22, E⟩ := qbv_el E
      refine qt_callVv (b2 := 0) [.int x1] (c_X12_fillsBoth x1 h12 e22) cv_RX12_493 (wl_119 h12) rfl rfl rfl (Nat.le_of_ble_eq_true rfl) (Nat.le_of_ble_eq_true rfl) dX12_plan_22 ?_
      refine qt_bipush dX12_plan_25 cb_m2 ?_
      refine qt_istore_n (fun v27 => [(3, .int v27), (0, .ref (g.1 + 119)), (1, .int x1), (2, .int x2)]) dX12_plan_27 rfl (Nat.le_of_ble_eq_true rfl) (fun _ => rfl) E (fun v27 E => ?_)
      refine qt_iconst dX12_plan_28 ci_0 ?_
      refine qt_istore (fun v29 => [(4, .int v29), (3, .int v27), (0, .ref (g.1 + 119)), (1, .int x1), (2, .int x2)]) dX12_plan_29 (Nat.le_of_ble_eq_true rfl) (fun _ => rfl) E (fun v29 E => ?_)
      exact qt_sub _ [2, 4, 1, 0] rfl ((s_X12_plan_b31_loop x2 v27 v29 h22 E G))
    · refine qt_iconst dX12_plan_18 ci_m1 ?_
      exact qt_ireturn rfl (Nat.le_of_ble_eq_true rfl) dX12_plan_19 E G
noncomputable def f_X12_worstAlone_b40 (x1 : Int32) (x3 : Int32) (s0 : Int32) (h : qa_M) : Option ((Int32 × Int32 × Int32 × qa_M) ⊕ (Int32 × qa_M)) :=
  qbd s0 (fun v40 : Int32 =>
  qbd (x3 + (1 : Int32)) (fun v41 : Int32 =>
  some (.inl (x1, v40, v41, h))))
set_option maxRecDepth 20000 in
theorem s_X12_worstAlone_b40 {l : Launch} {g : qa_G} {d : Nat} {rz : Option Value} {hz : qa_M} (x1 : Int32) (x3 : Int32) (s0 : Int32) (h : qa_M) {z : ((Int32 × Int32 × Int32 × qa_M) ⊕ (Int32 × qa_M))} (E : f_X12_worstAlone_b40 x1 x3 s0 h = some z) (G : (Sum.elim (fun (sz : Int32 × Int32 × Int32 × qa_M) => qt_At l g (yX12_worstAlone, cX12_worstAlone, 4, (some .int)) d 0 0 4 [(0, .ref (g.1 + 119)), (1, .int sz.1), (2, .int sz.2.1), (3, .int sz.2.2.1)] [] sz.2.2.2 rz hz) (qg_i rz hz)) z) : qt_At l g (yX12_worstAlone, cX12_worstAlone, 4, (some .int)) d 0 0 40 [(0, .ref (g.1 + 119)), (1, .int x1), (3, .int x3)] [.int s0] h rz hz := by
  unfold f_X12_worstAlone_b40 at E
  refine qt_istore_n (fun v40 => [(2, .int v40), (0, .ref (g.1 + 119)), (1, .int x1), (3, .int x3)]) dX12_worstAlone_40 rfl (Nat.le_of_ble_eq_true rfl) (fun _ => rfl) E (fun v40 E => ?_)
  refine qt_iinc 3 (fun v41 => [(3, .int v41), (2, .int v40), (0, .ref (g.1 + 119)), (1, .int x1)]) dX12_worstAlone_41 rfl ci_1 (Nat.le_of_ble_eq_true rfl) (fun _ => rfl) E (fun v41 E => ?_)
  refine qt_goto 4 dX12_worstAlone_44 (by decide) ?_
  cases E
  exact qt_sub _ [2, 3, 1, 0] rfl (G)
noncomputable def f_X12_worstAlone_b4 (x1 : Int32) (x2 : Int32) (x3 : Int32) (h : qa_M) : Option ((Int32 × Int32 × Int32 × qa_M) ⊕ (Int32 × qa_M)) :=
  if (16 : Int32) ≤ x3 then (
   qup (some (x2, h)))
  else (
   qck (((16 : Int32) * x1) + x3) 576 (
   if (h.1 160 (((16 : Int32) * x1) + x3).toNatClampNeg) ≤ x2 then (
    f_X12_worstAlone_b40 x1 x3 x2 h)
   else (
    qck (((16 : Int32) * x1) + x3) 576 (
    f_X12_worstAlone_b40 x1 x3 (h.1 160 (((16 : Int32) * x1) + x3).toNatClampNeg) h))))
set_option maxRecDepth 20000 in
theorem s_X12_worstAlone_b4 {l : Launch} {g : qa_G} {d : Nat} {rz : Option Value} {hz : qa_M} (x1 : Int32) (x2 : Int32) (x3 : Int32) (h : qa_M) {z : ((Int32 × Int32 × Int32 × qa_M) ⊕ (Int32 × qa_M))} (E : f_X12_worstAlone_b4 x1 x2 x3 h = some z) (G : (Sum.elim (fun (sz : Int32 × Int32 × Int32 × qa_M) => qt_At l g (yX12_worstAlone, cX12_worstAlone, 4, (some .int)) d 0 0 4 [(0, .ref (g.1 + 119)), (1, .int sz.1), (2, .int sz.2.1), (3, .int sz.2.2.1)] [] sz.2.2.2 rz hz) (qg_i rz hz)) z) : qt_At l g (yX12_worstAlone, cX12_worstAlone, 4, (some .int)) d 0 0 4 [(0, .ref (g.1 + 119)), (1, .int x1), (2, .int x2), (3, .int x3)] [] h rz hz := by
  unfold f_X12_worstAlone_b4 at E
  refine qt_iload_n 3 dX12_worstAlone_4 rfl rfl ?_
  refine qt_bipush dX12_worstAlone_5 cb_16 ?_
  refine qt_icmp_ge 47 dX12_worstAlone_7 (by decide) E (fun E => ?_) (fun E => ?_)
  · refine qt_iload_n 2 dX12_worstAlone_47 rfl rfl ?_
    obtain ⟨z0_, E, G⟩ := qup_g E G
    exact qt_ireturn rfl (Nat.le_of_ble_eq_true rfl) dX12_worstAlone_48 E G
  · refine qt_aload_n 0 dX12_worstAlone_10 rfl rfl ?_
    refine qt_getS 160 (wl_119 h) fe_RX12_136 rfl dX12_worstAlone_11 ?_
    refine qt_bipush dX12_worstAlone_14 cb_16 ?_
    refine qt_iload_n 1 dX12_worstAlone_16 rfl rfl ?_
    refine qt_imul dX12_worstAlone_17 ?_
    refine qt_iload_n 3 dX12_worstAlone_18 rfl rfl ?_
    refine qt_iadd dX12_worstAlone_19 ?_
    refine qt_iald (wl_160 h) dX12_worstAlone_20 E (fun E => ?_)
    refine qt_iload_n 2 dX12_worstAlone_21 rfl rfl ?_
    refine qt_icmp_le 39 dX12_worstAlone_22 (by decide) E (fun E => ?_) (fun E => ?_)
    · refine qt_iload_n 2 dX12_worstAlone_39 rfl rfl ?_
      exact qt_sub _ [0, 1, 3] rfl ((s_X12_worstAlone_b40 x1 x3 x2 h E G))
    · refine qt_aload_n 0 dX12_worstAlone_25 rfl rfl ?_
      refine qt_getS 160 (wl_119 h) fe_RX12_136 rfl dX12_worstAlone_26 ?_
      refine qt_bipush dX12_worstAlone_29 cb_16 ?_
      refine qt_iload_n 1 dX12_worstAlone_31 rfl rfl ?_
      refine qt_imul dX12_worstAlone_32 ?_
      refine qt_iload_n 3 dX12_worstAlone_33 rfl rfl ?_
      refine qt_iadd dX12_worstAlone_34 ?_
      refine qt_iald (wl_160 h) dX12_worstAlone_35 E (fun E => ?_)
      refine qt_goto 40 dX12_worstAlone_36 (by decide) ?_
      exact qt_sub _ [0, 1, 3] rfl ((s_X12_worstAlone_b40 x1 x3 (h.1 160 (((16 : Int32) * x1) + x3).toNatClampNeg) h E G))
noncomputable def f_X12_worstAlone_b4_loop (x1 : Int32) (x2 : Int32) (x3 : Int32) (h : qa_M) : Option (Int32 × qa_M) := qlp (fun sz : Int32 × Int32 × Int32 × qa_M => f_X12_worstAlone_b4 sz.1 sz.2.1 sz.2.2.1 sz.2.2.2) (x1, x2, x3, h)
theorem s_X12_worstAlone_b4_loop {l : Launch} {g : qa_G} {d : Nat} {rz : Option Value} {hz : qa_M} (x1 : Int32) (x2 : Int32) (x3 : Int32) (h : qa_M) {z : (Int32 × qa_M)} (E : f_X12_worstAlone_b4_loop x1 x2 x3 h = some z) (G : (qg_i rz hz) z) : qt_At l g (yX12_worstAlone, cX12_worstAlone, 4, (some .int)) d 0 0 4 [(0, .ref (g.1 + 119)), (1, .int x1), (2, .int x2), (3, .int x3)] [] h rz hz :=
  qlp_ind (fun sz : Int32 × Int32 × Int32 × qa_M => qt_At l g (yX12_worstAlone, cX12_worstAlone, 4, (some .int)) d 0 0 4 [(0, .ref (g.1 + 119)), (1, .int sz.1), (2, .int sz.2.1), (3, .int sz.2.2.1)] [] sz.2.2.2 rz hz) (fun sz E => s_X12_worstAlone_b4 sz.1 sz.2.1 sz.2.2.1 sz.2.2.2 E G) (fun sz sz2 E ih => s_X12_worstAlone_b4 sz.1 sz.2.1 sz.2.2.1 sz.2.2.2 E ih) (x1, x2, x3, h) E
noncomputable def m_X12_worstAlone (x1 : Int32) (h : qa_M) : Option (Int32 × qa_M) :=
  qbd (0 : Int32) (fun v1 : Int32 =>
  qbd (0 : Int32) (fun v3 : Int32 =>
  f_X12_worstAlone_b4_loop x1 v1 v3 h))
set_option maxRecDepth 20000 in
theorem c_X12_worstAlone {l : Launch} {g : qa_G} {d : Nat} (x1 : Int32) (h : qa_M) {c : Int32} {h1 : qa_M} (E : m_X12_worstAlone x1 h = some (c, h1)) : qt_Met l g (yX12_worstAlone, cX12_worstAlone, 4, (some .int)) d 0 [.ref (g.1 + 119), .int x1] h (some (.int c)) h1 := by
  refine qt_Met.of (plainFor_of_name (by decide)) (Nat.le_of_ble_eq_true rfl) ?_
  have G : qg_i (some (.int c)) h1 ((c, h1)) := ⟨rfl, rfl⟩
  unfold m_X12_worstAlone at E
  refine qt_iconst dX12_worstAlone_0 ci_0 ?_
  refine qt_istore_n (fun v1 => [(2, .int v1), (0, .ref (g.1 + 119)), (1, .int x1)]) dX12_worstAlone_1 rfl (Nat.le_of_ble_eq_true rfl) (fun _ => rfl) E (fun v1 E => ?_)
  refine qt_iconst dX12_worstAlone_2 ci_0 ?_
  refine qt_istore_n (fun v3 => [(3, .int v3), (2, .int v1), (0, .ref (g.1 + 119)), (1, .int x1)]) dX12_worstAlone_3 rfl (Nat.le_of_ble_eq_true rfl) (fun _ => rfl) E (fun v3 E => ?_)
  exact qt_sub _ [2, 3, 1, 0] rfl ((s_X12_worstAlone_b4_loop x1 v1 v3 h E G))
noncomputable def f_X12_fresh_b254 (x4 : Int32) (h : qa_M) : Option (Int32 × qa_M) :=
  some (x4, h)
set_option maxRecDepth 20000 in
theorem s_X12_fresh_b254 {l : Launch} {g : qa_G} {d : Nat} {rz : Option Value} {hz : qa_M} (x4 : Int32) (h : qa_M) {z : (Int32 × qa_M)} (E : f_X12_fresh_b254 x4 h = some z) (G : (qg_i rz hz) z) : qt_At l g (yX12_fresh, cX12_fresh, 6, (some .int)) (d + 7) 0 0 254 [(4, .int x4)] [] h rz hz := by
  unfold f_X12_fresh_b254 at E
  refine qt_iload 0 dX12_fresh_254 rfl ?_
  refine qt_goto 265 dX12_fresh_256 (by decide) ?_
  exact qt_ireturn rfl (Nat.le_of_ble_eq_true rfl) dX12_fresh_265 E G
noncomputable def f_X12_fresh_b243 (x3 : Int32) (x4 : Int32) (h : qa_M) : Option (Int32 × qa_M) :=
  if x4 = (-2 : Int32) then (
   f_X12_fresh_b254 x4 h)
  else (
   if x3 = 0 then (
    f_X12_fresh_b254 x4 h)
   else (
    qbn (m_X12_worstAlone x4 h) (fun (c262 : Int32) (h262 : qa_M) =>
    some (c262, h262))))
set_option maxRecDepth 20000 in
theorem s_X12_fresh_b243 {l : Launch} {g : qa_G} {d : Nat} {rz : Option Value} {hz : qa_M} (x3 : Int32) (x4 : Int32) (h : qa_M) {z : (Int32 × qa_M)} (E : f_X12_fresh_b243 x3 x4 h = some z) (G : (qg_i rz hz) z) : qt_At l g (yX12_fresh, cX12_fresh, 6, (some .int)) (d + 7) 0 0 243 [(0, .ref (g.1 + 119)), (3, .int x3), (4, .int x4)] [] h rz hz := by
  unfold f_X12_fresh_b243 at E
  refine qt_iload 2 dX12_fresh_243 rfl ?_
  refine qt_bipush dX12_fresh_245 cb_m2 ?_
  refine qt_icmp_eq 254 dX12_fresh_247 (by decide) E (fun E => ?_) (fun E => ?_)
  · exact qt_sub _ [2] rfl ((s_X12_fresh_b254 x4 h E G))
  · refine qt_iload_n 1 dX12_fresh_250 rfl rfl ?_
    refine qt_if_ne 259 dX12_fresh_251 (by decide) E (fun E => ?_) (fun E => ?_)
    · refine qt_aload_n 0 dX12_fresh_259 rfl rfl ?_
      refine qt_iload 2 dX12_fresh_260 rfl ?_
      obtain ⟨c262, h262, e262, E⟩ := qbn_el E
      refine qt_callVi (b2 := 0) [.int x4] (c_X12_worstAlone x4 h e262) cv_RX12_511 (wl_119 h) rfl rfl rfl (Nat.le_of_ble_eq_true rfl) (Nat.le_of_ble_eq_true rfl) dX12_fresh_262 ?_
      exact qt_ireturn rfl (Nat.le_of_ble_eq_true rfl) dX12_fresh_265 E G
    · exact qt_sub _ [2] rfl ((s_X12_fresh_b254 x4 h E G))
noncomputable def f_X12_fresh_b235 (x3 : Int32) (x5 : Int32) (s0 : Int32) (h : qa_M) : Option ((Int32 × Int32 × Int32 × qa_M) ⊕ (Int32 × qa_M)) :=
  qbd s0 (fun v235 : Int32 =>
  qbd (x5 + (1 : Int32)) (fun v237 : Int32 =>
  some (.inl (x3, v235, v237, h))))
set_option maxRecDepth 20000 in
theorem s_X12_fresh_b235 {l : Launch} {g : qa_G} {d : Nat} {rz : Option Value} {hz : qa_M} (x3 : Int32) (x5 : Int32) (s0 : Int32) (h : qa_M) {z : ((Int32 × Int32 × Int32 × qa_M) ⊕ (Int32 × qa_M))} (E : f_X12_fresh_b235 x3 x5 s0 h = some z) (G : (Sum.elim (fun (sz : Int32 × Int32 × Int32 × qa_M) => qt_At l g (yX12_fresh, cX12_fresh, 6, (some .int)) (d + 7) 0 0 187 [(0, .ref (g.1 + 119)), (3, .int sz.1), (4, .int sz.2.1), (5, .int sz.2.2.1)] [] sz.2.2.2 rz hz) (qg_i rz hz)) z) : qt_At l g (yX12_fresh, cX12_fresh, 6, (some .int)) (d + 7) 0 0 235 [(0, .ref (g.1 + 119)), (3, .int x3), (5, .int x5)] [.int s0] h rz hz := by
  unfold f_X12_fresh_b235 at E
  refine qt_istore (fun v235 => [(4, .int v235), (0, .ref (g.1 + 119)), (3, .int x3), (5, .int x5)]) dX12_fresh_235 (Nat.le_of_ble_eq_true rfl) (fun _ => rfl) E (fun v235 E => ?_)
  refine qt_iinc 3 (fun v237 => [(5, .int v237), (4, .int v235), (0, .ref (g.1 + 119)), (3, .int x3)]) dX12_fresh_237 rfl ci_1 (Nat.le_of_ble_eq_true rfl) (fun _ => rfl) E (fun v237 E => ?_)
  refine qt_goto 187 dX12_fresh_240 (by decide) ?_
  cases E
  exact qt_sub _ [2, 3, 1, 0] rfl (G)
noncomputable def f_X12_fresh_b233 (x3 : Int32) (x4 : Int32) (x5 : Int32) (h : qa_M) : Option ((Int32 × Int32 × Int32 × qa_M) ⊕ (Int32 × qa_M)) :=
  f_X12_fresh_b235 x3 x5 x4 h
set_option maxRecDepth 20000 in
theorem s_X12_fresh_b233 {l : Launch} {g : qa_G} {d : Nat} {rz : Option Value} {hz : qa_M} (x3 : Int32) (x4 : Int32) (x5 : Int32) (h : qa_M) {z : ((Int32 × Int32 × Int32 × qa_M) ⊕ (Int32 × qa_M))} (E : f_X12_fresh_b233 x3 x4 x5 h = some z) (G : (Sum.elim (fun (sz : Int32 × Int32 × Int32 × qa_M) => qt_At l g (yX12_fresh, cX12_fresh, 6, (some .int)) (d + 7) 0 0 187 [(0, .ref (g.1 + 119)), (3, .int sz.1), (4, .int sz.2.1), (5, .int sz.2.2.1)] [] sz.2.2.2 rz hz) (qg_i rz hz)) z) : qt_At l g (yX12_fresh, cX12_fresh, 6, (some .int)) (d + 7) 0 0 233 [(0, .ref (g.1 + 119)), (3, .int x3), (4, .int x4), (5, .int x5)] [] h rz hz := by
  unfold f_X12_fresh_b233 at E
  refine qt_iload 2 dX12_fresh_233 rfl ?_
  exact qt_sub _ [0, 1, 3] rfl ((s_X12_fresh_b235 x3 x5 x4 h E G))
noncomputable def f_X12_fresh_b228 (x3 : Int32) (x5 : Int32) (h : qa_M) : Option ((Int32 × Int32 × Int32 × qa_M) ⊕ (Int32 × qa_M)) :=
  f_X12_fresh_b235 x3 x5 x5 h
set_option maxRecDepth 20000 in
theorem s_X12_fresh_b228 {l : Launch} {g : qa_G} {d : Nat} {rz : Option Value} {hz : qa_M} (x3 : Int32) (x5 : Int32) (h : qa_M) {z : ((Int32 × Int32 × Int32 × qa_M) ⊕ (Int32 × qa_M))} (E : f_X12_fresh_b228 x3 x5 h = some z) (G : (Sum.elim (fun (sz : Int32 × Int32 × Int32 × qa_M) => qt_At l g (yX12_fresh, cX12_fresh, 6, (some .int)) (d + 7) 0 0 187 [(0, .ref (g.1 + 119)), (3, .int sz.1), (4, .int sz.2.1), (5, .int sz.2.2.1)] [] sz.2.2.2 rz hz) (qg_i rz hz)) z) : qt_At l g (yX12_fresh, cX12_fresh, 6, (some .int)) (d + 7) 0 0 228 [(0, .ref (g.1 + 119)), (3, .int x3), (5, .int x5)] [] h rz hz := by
  unfold f_X12_fresh_b228 at E
  refine qt_iload 2 dX12_fresh_228 rfl ?_
  refine qt_goto 235 dX12_fresh_230 (by decide) ?_
  exact qt_sub _ [0, 1, 2] rfl ((s_X12_fresh_b235 x3 x5 x5 h E G))
noncomputable def f_X12_fresh_b187 (x3 : Int32) (x4 : Int32) (x5 : Int32) (h : qa_M) : Option ((Int32 × Int32 × Int32 × qa_M) ⊕ (Int32 × qa_M)) :=
  if (36 : Int32) ≤ x5 then (
   qup (f_X12_fresh_b243 x3 x4 h))
  else (
   qck x5 36 (
   if (h.2.1 156 x5.toNatClampNeg) = (0 : Int64) then (
    f_X12_fresh_b233 x3 x4 x5 h)
   else (
    if x4 = (-2 : Int32) then (
     f_X12_fresh_b228 x3 x5 h)
    else (
     qbn (m_X12_worstAlone x5 h) (fun (c216 : Int32) (h216 : qa_M) =>
     qbn (m_X12_worstAlone x4 h216) (fun (c222 : Int32) (h222 : qa_M) =>
     if c222 ≤ c216 then (
      f_X12_fresh_b233 x3 x4 x5 h222)
     else (
      f_X12_fresh_b228 x3 x5 h222)))))))
set_option maxRecDepth 20000 in
theorem s_X12_fresh_b187 {l : Launch} {g : qa_G} {d : Nat} {rz : Option Value} {hz : qa_M} (x3 : Int32) (x4 : Int32) (x5 : Int32) (h : qa_M) {z : ((Int32 × Int32 × Int32 × qa_M) ⊕ (Int32 × qa_M))} (E : f_X12_fresh_b187 x3 x4 x5 h = some z) (G : (Sum.elim (fun (sz : Int32 × Int32 × Int32 × qa_M) => qt_At l g (yX12_fresh, cX12_fresh, 6, (some .int)) (d + 7) 0 0 187 [(0, .ref (g.1 + 119)), (3, .int sz.1), (4, .int sz.2.1), (5, .int sz.2.2.1)] [] sz.2.2.2 rz hz) (qg_i rz hz)) z) : qt_At l g (yX12_fresh, cX12_fresh, 6, (some .int)) (d + 7) 0 0 187 [(0, .ref (g.1 + 119)), (3, .int x3), (4, .int x4), (5, .int x5)] [] h rz hz := by
  unfold f_X12_fresh_b187 at E
  refine qt_iload 3 dX12_fresh_187 rfl ?_
  refine qt_bipush dX12_fresh_189 cb_36 ?_
  refine qt_icmp_ge 243 dX12_fresh_191 (by decide) E (fun E => ?_) (fun E => ?_)
  · obtain ⟨z0_, E, G⟩ := qup_g E G
    exact qt_sub _ [0, 1, 2] rfl ((s_X12_fresh_b243 x3 x4 h E G))
  · refine qt_aload_n 0 dX12_fresh_194 rfl rfl ?_
    refine qt_getS 156 (wl_119 h) fe_RX12_124 rfl dX12_fresh_195 ?_
    refine qt_iload 3 dX12_fresh_198 rfl ?_
    refine qt_lald (wl_156 h) dX12_fresh_200 E (fun E => ?_)
    refine qt_lconst dX12_fresh_201 cl_0 ?_
    refine qt_lc_eq 233 dX12_fresh_202 dX12_fresh_203 (by decide) E (fun E => ?_) (fun E => ?_)
    · exact qt_sub _ [0, 1, 2, 3] rfl ((s_X12_fresh_b233 x3 x4 x5 h E G))
    · refine qt_iload 2 dX12_fresh_206 rfl ?_
      refine qt_bipush dX12_fresh_208 cb_m2 ?_
      refine qt_icmp_eq 228 dX12_fresh_210 (by decide) E (fun E => ?_) (fun E => ?_)
      · exact qt_sub _ [0, 1, 3] rfl ((s_X12_fresh_b228 x3 x5 h E G))
      · refine qt_aload_n 0 dX12_fresh_213 rfl rfl ?_
        refine qt_iload 3 dX12_fresh_214 rfl ?_
        obtain ⟨c216, h216, e216, E⟩ := qbn_el E
        refine qt_callVi (b2 := 0) [.int x5] (c_X12_worstAlone x5 h e216) cv_RX12_511 (wl_119 h) rfl rfl rfl (Nat.le_of_ble_eq_true rfl) (Nat.le_of_ble_eq_true rfl) dX12_fresh_216 ?_
        refine qt_aload_n 0 dX12_fresh_219 rfl rfl ?_
        refine qt_iload 2 dX12_fresh_220 rfl ?_
        obtain ⟨c222, h222, e222, E⟩ := qbn_el E
        refine qt_callVi (b2 := 0) [.int x4] (c_X12_worstAlone x4 h216 e222) cv_RX12_511 (wl_119 h216) rfl rfl rfl (Nat.le_of_ble_eq_true rfl) (Nat.le_of_ble_eq_true rfl) dX12_fresh_222 ?_
        refine qt_icmp_ge 233 dX12_fresh_225 (by decide) E (fun E => ?_) (fun E => ?_)
        · exact qt_sub _ [0, 1, 2, 3] rfl ((s_X12_fresh_b233 x3 x4 x5 h222 E G))
        · exact qt_sub _ [0, 1, 3] rfl ((s_X12_fresh_b228 x3 x5 h222 E G))
noncomputable def f_X12_fresh_b187_loop (x3 : Int32) (x4 : Int32) (x5 : Int32) (h : qa_M) : Option (Int32 × qa_M) := qlp (fun sz : Int32 × Int32 × Int32 × qa_M => f_X12_fresh_b187 sz.1 sz.2.1 sz.2.2.1 sz.2.2.2) (x3, x4, x5, h)
theorem s_X12_fresh_b187_loop {l : Launch} {g : qa_G} {d : Nat} {rz : Option Value} {hz : qa_M} (x3 : Int32) (x4 : Int32) (x5 : Int32) (h : qa_M) {z : (Int32 × qa_M)} (E : f_X12_fresh_b187_loop x3 x4 x5 h = some z) (G : (qg_i rz hz) z) : qt_At l g (yX12_fresh, cX12_fresh, 6, (some .int)) (d + 7) 0 0 187 [(0, .ref (g.1 + 119)), (3, .int x3), (4, .int x4), (5, .int x5)] [] h rz hz :=
  qlp_ind (fun sz : Int32 × Int32 × Int32 × qa_M => qt_At l g (yX12_fresh, cX12_fresh, 6, (some .int)) (d + 7) 0 0 187 [(0, .ref (g.1 + 119)), (3, .int sz.1), (4, .int sz.2.1), (5, .int sz.2.2.1)] [] sz.2.2.2 rz hz) (fun sz E => s_X12_fresh_b187 sz.1 sz.2.1 sz.2.2.1 sz.2.2.2 E G) (fun sz sz2 E ih => s_X12_fresh_b187 sz.1 sz.2.1 sz.2.2.1 sz.2.2.2 E ih) (x3, x4, x5, h) E
noncomputable def f_X12_fresh_b180 (x3 : Int32) (h : qa_M) : Option (Int32 × qa_M) :=
  qbd (-2 : Int32) (fun v182 : Int32 =>
  qbd (0 : Int32) (fun v185 : Int32 =>
  f_X12_fresh_b187_loop x3 v182 v185 h))
set_option maxRecDepth 20000 in
theorem s_X12_fresh_b180 {l : Launch} {g : qa_G} {d : Nat} {rz : Option Value} {hz : qa_M} (x3 : Int32) (h : qa_M) {z : (Int32 × qa_M)} (E : f_X12_fresh_b180 x3 h = some z) (G : (qg_i rz hz) z) : qt_At l g (yX12_fresh, cX12_fresh, 6, (some .int)) (d + 7) 0 0 180 [(0, .ref (g.1 + 119)), (3, .int x3)] [] h rz hz := by
  unfold f_X12_fresh_b180 at E
  refine qt_bipush dX12_fresh_180 cb_m2 ?_
  refine qt_istore (fun v182 => [(4, .int v182), (0, .ref (g.1 + 119)), (3, .int x3)]) dX12_fresh_182 (Nat.le_of_ble_eq_true rfl) (fun _ => rfl) E (fun v182 E => ?_)
  refine qt_iconst dX12_fresh_184 ci_0 ?_
  refine qt_istore (fun v185 => [(5, .int v185), (4, .int v182), (0, .ref (g.1 + 119)), (3, .int x3)]) dX12_fresh_185 (Nat.le_of_ble_eq_true rfl) (fun _ => rfl) E (fun v185 E => ?_)
  exact qt_sub _ [2, 3, 1, 0] rfl ((s_X12_fresh_b187_loop x3 v182 v185 h E G))
noncomputable def f_X12_fresh_b177 (x1 : Int32) (x3 : Int32) (h : qa_M) : Option ((Int32 × Int32 × qa_M) ⊕ (Int32 × qa_M)) :=
  some (.inl (x1, x3, h))
set_option maxRecDepth 20000 in
theorem s_X12_fresh_b177 {l : Launch} {g : qa_G} {d : Nat} {rz : Option Value} {hz : qa_M} (x1 : Int32) (x3 : Int32) (h : qa_M) {z : ((Int32 × Int32 × qa_M) ⊕ (Int32 × qa_M))} (E : f_X12_fresh_b177 x1 x3 h = some z) (G : (Sum.elim (fun (sz : Int32 × Int32 × qa_M) => qt_At l g (yX12_fresh, cX12_fresh, 6, (some .int)) (d + 7) 0 0 115 [(0, .ref (g.1 + 119)), (1, .int sz.1), (3, .int sz.2.1)] [] sz.2.2 rz hz) (qg_i rz hz)) z) : qt_At l g (yX12_fresh, cX12_fresh, 6, (some .int)) (d + 7) 0 0 177 [(0, .ref (g.1 + 119)), (1, .int x1), (3, .int x3)] [] h rz hz := by
  unfold f_X12_fresh_b177 at E
  refine qt_goto 115 dX12_fresh_177 (by decide) ?_
  cases E
  exact qt_sub _ [0, 1, 2] rfl (G)
noncomputable def f_X12_fresh_b171 (x1 : Int32) (x3 : Int32) (x4 : Int32) (h : qa_M) : Option ((Int32 × Int32 × Int32 × qa_M) ⊕ ((Int32 × Int32 × qa_M) ⊕ (Int32 × qa_M))) :=
  qbd (x4 + (1 : Int32)) (fun v171 : Int32 =>
  some (.inl (x1, x3, v171, h)))
set_option maxRecDepth 20000 in
theorem s_X12_fresh_b171 {l : Launch} {g : qa_G} {d : Nat} {rz : Option Value} {hz : qa_M} (x1 : Int32) (x3 : Int32) (x4 : Int32) (h : qa_M) {z : ((Int32 × Int32 × Int32 × qa_M) ⊕ ((Int32 × Int32 × qa_M) ⊕ (Int32 × qa_M)))} (E : f_X12_fresh_b171 x1 x3 x4 h = some z) (G : (Sum.elim (fun (sz : Int32 × Int32 × Int32 × qa_M) => qt_At l g (yX12_fresh, cX12_fresh, 6, (some .int)) (d + 7) 0 0 126 [(0, .ref (g.1 + 119)), (1, .int sz.1), (3, .int sz.2.1), (4, .int sz.2.2.1)] [] sz.2.2.2 rz hz) (Sum.elim (fun (sz : Int32 × Int32 × qa_M) => qt_At l g (yX12_fresh, cX12_fresh, 6, (some .int)) (d + 7) 0 0 115 [(0, .ref (g.1 + 119)), (1, .int sz.1), (3, .int sz.2.1)] [] sz.2.2 rz hz) (qg_i rz hz))) z) : qt_At l g (yX12_fresh, cX12_fresh, 6, (some .int)) (d + 7) 0 0 171 [(0, .ref (g.1 + 119)), (1, .int x1), (3, .int x3), (4, .int x4)] [] h rz hz := by
  unfold f_X12_fresh_b171 at E
  refine qt_iinc 3 (fun v171 => [(4, .int v171), (0, .ref (g.1 + 119)), (1, .int x1), (3, .int x3)]) dX12_fresh_171 rfl ci_1 (Nat.le_of_ble_eq_true rfl) (fun _ => rfl) E (fun v171 E => ?_)
  refine qt_goto 126 dX12_fresh_174 (by decide) ?_
  cases E
  exact qt_sub _ [1, 2, 3, 0] rfl (G)
noncomputable def f_X12_fresh_b126 (x1 : Int32) (x3 : Int32) (x4 : Int32) (h : qa_M) : Option ((Int32 × Int32 × Int32 × qa_M) ⊕ ((Int32 × Int32 × qa_M) ⊕ (Int32 × qa_M))) :=
  if (36 : Int32) ≤ x4 then (
   qup (f_X12_fresh_b177 x1 x3 h))
  else (
   qck x4 36 (
   if (h.2.1 156 x4.toNatClampNeg) = (0 : Int64) then (
    f_X12_fresh_b171 x1 x3 x4 h)
   else (
    qck x4 36 (
    qbn (m_X12_noneSeen (h.2.1 156 x4.toNatClampNeg) h) (fun (c162 : Int32) (h162 : qa_M) =>
    qck (((16 : Int32) * x4) + c162) 576 (
    qck (((16 : Int32) * x4) + c162) 576 (
    qbd (qw_I h162 160 (((16 : Int32) * x4) + c162).toNatClampNeg ((h162.1 160 (((16 : Int32) * x4) + c162).toNatClampNeg) + (1 : Int32))) (fun h170 : qa_M =>
    f_X12_fresh_b171 x1 x3 x4 h170))))))))
set_option maxRecDepth 20000 in
theorem s_X12_fresh_b126 {l : Launch} {g : qa_G} {d : Nat} {rz : Option Value} {hz : qa_M} (x1 : Int32) (x3 : Int32) (x4 : Int32) (h : qa_M) {z : ((Int32 × Int32 × Int32 × qa_M) ⊕ ((Int32 × Int32 × qa_M) ⊕ (Int32 × qa_M)))} (E : f_X12_fresh_b126 x1 x3 x4 h = some z) (G : (Sum.elim (fun (sz : Int32 × Int32 × Int32 × qa_M) => qt_At l g (yX12_fresh, cX12_fresh, 6, (some .int)) (d + 7) 0 0 126 [(0, .ref (g.1 + 119)), (1, .int sz.1), (3, .int sz.2.1), (4, .int sz.2.2.1)] [] sz.2.2.2 rz hz) (Sum.elim (fun (sz : Int32 × Int32 × qa_M) => qt_At l g (yX12_fresh, cX12_fresh, 6, (some .int)) (d + 7) 0 0 115 [(0, .ref (g.1 + 119)), (1, .int sz.1), (3, .int sz.2.1)] [] sz.2.2 rz hz) (qg_i rz hz))) z) : qt_At l g (yX12_fresh, cX12_fresh, 6, (some .int)) (d + 7) 0 0 126 [(0, .ref (g.1 + 119)), (1, .int x1), (3, .int x3), (4, .int x4)] [] h rz hz := by
  unfold f_X12_fresh_b126 at E
  refine qt_iload 3 dX12_fresh_126 rfl ?_
  refine qt_bipush dX12_fresh_128 cb_36 ?_
  refine qt_icmp_ge 177 dX12_fresh_130 (by decide) E (fun E => ?_) (fun E => ?_)
  · obtain ⟨z0_, E, G⟩ := qup_g E G
    exact qt_sub _ [0, 1, 2] rfl ((s_X12_fresh_b177 x1 x3 h E G))
  · refine qt_aload_n 0 dX12_fresh_133 rfl rfl ?_
    refine qt_getS 156 (wl_119 h) fe_RX12_124 rfl dX12_fresh_134 ?_
    refine qt_iload 3 dX12_fresh_137 rfl ?_
    refine qt_lald (wl_156 h) dX12_fresh_139 E (fun E => ?_)
    refine qt_lconst dX12_fresh_140 cl_0 ?_
    refine qt_lc_eq 171 dX12_fresh_141 dX12_fresh_142 (by decide) E (fun E => ?_) (fun E => ?_)
    · exact qt_sub _ [0, 1, 2, 3] rfl ((s_X12_fresh_b171 x1 x3 x4 h E G))
    · refine qt_aload_n 0 dX12_fresh_145 rfl rfl ?_
      refine qt_getS 160 (wl_119 h) fe_RX12_136 rfl dX12_fresh_146 ?_
      refine qt_bipush dX12_fresh_149 cb_16 ?_
      refine qt_iload 3 dX12_fresh_151 rfl ?_
      refine qt_imul dX12_fresh_153 ?_
      refine qt_aload_n 0 dX12_fresh_154 rfl rfl ?_
      refine qt_aload_n 0 dX12_fresh_155 rfl rfl ?_
      refine qt_getS 156 (wl_119 h) fe_RX12_124 rfl dX12_fresh_156 ?_
      refine qt_iload 3 dX12_fresh_159 rfl ?_
      refine qt_lald (wl_156 h) dX12_fresh_161 E (fun E => ?_)
      obtain ⟨c162, h162, e162, E⟩ := qbn_el E
      refine qt_callVi (b2 := 0) [.long (h.2.1 156 x4.toNatClampNeg)] (c_X12_noneSeen (h.2.1 156 x4.toNatClampNeg) h e162) cv_RX12_485 (wl_119 h) rfl rfl rfl (Nat.le_of_ble_eq_true rfl) (Nat.le_of_ble_eq_true rfl) dX12_fresh_162 ?_
      refine qt_iadd dX12_fresh_165 ?_
      refine qt_dup2_11 dX12_fresh_166 rfl rfl ?_
      refine qt_iald (wl_160 h162) dX12_fresh_167 E (fun E => ?_)
      refine qt_iconst dX12_fresh_168 ci_1 ?_
      refine qt_iadd dX12_fresh_169 ?_
      refine qt_iast (wl_160 h162) dX12_fresh_170 E (fun h170 E => ?_)
      exact qt_sub _ [0, 1, 2, 3] rfl ((s_X12_fresh_b171 x1 x3 x4 h170 E G))
noncomputable def f_X12_fresh_b126_loop (x1 : Int32) (x3 : Int32) (x4 : Int32) (h : qa_M) : Option ((Int32 × Int32 × qa_M) ⊕ (Int32 × qa_M)) := qlp (fun sz : Int32 × Int32 × Int32 × qa_M => f_X12_fresh_b126 sz.1 sz.2.1 sz.2.2.1 sz.2.2.2) (x1, x3, x4, h)
theorem s_X12_fresh_b126_loop {l : Launch} {g : qa_G} {d : Nat} {rz : Option Value} {hz : qa_M} (x1 : Int32) (x3 : Int32) (x4 : Int32) (h : qa_M) {z : ((Int32 × Int32 × qa_M) ⊕ (Int32 × qa_M))} (E : f_X12_fresh_b126_loop x1 x3 x4 h = some z) (G : (Sum.elim (fun (sz : Int32 × Int32 × qa_M) => qt_At l g (yX12_fresh, cX12_fresh, 6, (some .int)) (d + 7) 0 0 115 [(0, .ref (g.1 + 119)), (1, .int sz.1), (3, .int sz.2.1)] [] sz.2.2 rz hz) (qg_i rz hz)) z) : qt_At l g (yX12_fresh, cX12_fresh, 6, (some .int)) (d + 7) 0 0 126 [(0, .ref (g.1 + 119)), (1, .int x1), (3, .int x3), (4, .int x4)] [] h rz hz :=
  qlp_ind (fun sz : Int32 × Int32 × Int32 × qa_M => qt_At l g (yX12_fresh, cX12_fresh, 6, (some .int)) (d + 7) 0 0 126 [(0, .ref (g.1 + 119)), (1, .int sz.1), (3, .int sz.2.1), (4, .int sz.2.2.1)] [] sz.2.2.2 rz hz) (fun sz E => s_X12_fresh_b126 sz.1 sz.2.1 sz.2.2.1 sz.2.2.2 E G) (fun sz sz2 E ih => s_X12_fresh_b126 sz.1 sz.2.1 sz.2.2.1 sz.2.2.2 E ih) (x1, x3, x4, h) E
noncomputable def f_X12_fresh_b115 (x1 : Int32) (x3 : Int32) (h : qa_M) : Option ((Int32 × Int32 × qa_M) ⊕ (Int32 × qa_M)) :=
  qbn (m_X12_goesTo x1 h) (fun (c117 : Int32) (h117 : qa_M) =>
  if c117 = 0 then (
   qup (f_X12_fresh_b180 x3 h117))
  else (
   qbd (0 : Int32) (fun v124 : Int32 =>
   f_X12_fresh_b126_loop x1 x3 v124 h117)))
set_option maxRecDepth 20000 in
theorem s_X12_fresh_b115 {l : Launch} {g : qa_G} {d : Nat} {rz : Option Value} {hz : qa_M} (x1 : Int32) (x3 : Int32) (h : qa_M) {z : ((Int32 × Int32 × qa_M) ⊕ (Int32 × qa_M))} (E : f_X12_fresh_b115 x1 x3 h = some z) (G : (Sum.elim (fun (sz : Int32 × Int32 × qa_M) => qt_At l g (yX12_fresh, cX12_fresh, 6, (some .int)) (d + 7) 0 0 115 [(0, .ref (g.1 + 119)), (1, .int sz.1), (3, .int sz.2.1)] [] sz.2.2 rz hz) (qg_i rz hz)) z) : qt_At l g (yX12_fresh, cX12_fresh, 6, (some .int)) (d + 7) 0 0 115 [(0, .ref (g.1 + 119)), (1, .int x1), (3, .int x3)] [] h rz hz := by
  unfold f_X12_fresh_b115 at E
  refine qt_aload_n 0 dX12_fresh_115 rfl rfl ?_
  refine qt_iload_n 1 dX12_fresh_116 rfl rfl ?_
  obtain ⟨c117, h117, e117, E⟩ := qbn_el E
  refine qt_callVi (b2 := 0) [.int x1] (c_X12_goesTo x1 h e117) cv_RX12_449 (wl_119 h) rfl rfl rfl (Nat.le_of_ble_eq_true rfl) (Nat.le_of_ble_eq_true rfl) dX12_fresh_117 ?_
  refine qt_if_eq 180 dX12_fresh_120 (by decide) E (fun E => ?_) (fun E => ?_)
  · obtain ⟨z0_, E, G⟩ := qup_g E G
    exact qt_sub _ [0, 2] rfl ((s_X12_fresh_b180 x3 h117 E G))
  · refine qt_iconst dX12_fresh_123 ci_0 ?_
    refine qt_istore (fun v124 => [(4, .int v124), (0, .ref (g.1 + 119)), (1, .int x1), (3, .int x3)]) dX12_fresh_124 (Nat.le_of_ble_eq_true rfl) (fun _ => rfl) E (fun v124 E => ?_)
    exact qt_sub _ [1, 2, 3, 0] rfl ((s_X12_fresh_b126_loop x1 x3 v124 h117 E G))
noncomputable def f_X12_fresh_b115_loop (x1 : Int32) (x3 : Int32) (h : qa_M) : Option (Int32 × qa_M) := qlp (fun sz : Int32 × Int32 × qa_M => f_X12_fresh_b115 sz.1 sz.2.1 sz.2.2) (x1, x3, h)
theorem s_X12_fresh_b115_loop {l : Launch} {g : qa_G} {d : Nat} {rz : Option Value} {hz : qa_M} (x1 : Int32) (x3 : Int32) (h : qa_M) {z : (Int32 × qa_M)} (E : f_X12_fresh_b115_loop x1 x3 h = some z) (G : (qg_i rz hz) z) : qt_At l g (yX12_fresh, cX12_fresh, 6, (some .int)) (d + 7) 0 0 115 [(0, .ref (g.1 + 119)), (1, .int x1), (3, .int x3)] [] h rz hz :=
  qlp_ind (fun sz : Int32 × Int32 × qa_M => qt_At l g (yX12_fresh, cX12_fresh, 6, (some .int)) (d + 7) 0 0 115 [(0, .ref (g.1 + 119)), (1, .int sz.1), (3, .int sz.2.1)] [] sz.2.2 rz hz) (fun sz E => s_X12_fresh_b115 sz.1 sz.2.1 sz.2.2 E G) (fun sz sz2 E ih => s_X12_fresh_b115 sz.1 sz.2.1 sz.2.2 E ih) (x1, x3, h) E
noncomputable def f_X12_fresh_b108 (x1 : Int32) (x2 : Int32) (x3 : Int32) (x4 : Int32) (s1 : Int32) (s2 : Int64) (h : qa_M) : Option ((Int32 × Int32 × Int32 × Int32 × qa_M) ⊕ (Int32 × qa_M)) :=
  qck s1 36 (
  qbd (qw_J h 156 s1.toNatClampNeg s2) (fun h108 : qa_M =>
  qbd (x4 + (1 : Int32)) (fun v109 : Int32 =>
  some (.inl (x1, x2, x3, v109, h108)))))
set_option maxRecDepth 20000 in
theorem s_X12_fresh_b108 {l : Launch} {g : qa_G} {d : Nat} {rz : Option Value} {hz : qa_M} (x1 : Int32) (x2 : Int32) (x3 : Int32) (x4 : Int32) (s1 : Int32) (s2 : Int64) (h : qa_M) {z : ((Int32 × Int32 × Int32 × Int32 × qa_M) ⊕ (Int32 × qa_M))} (E : f_X12_fresh_b108 x1 x2 x3 x4 s1 s2 h = some z) (G : (Sum.elim (fun (sz : Int32 × Int32 × Int32 × Int32 × qa_M) => qt_At l g (yX12_fresh, cX12_fresh, 6, (some .int)) (d + 7) 0 0 66 [(0, .ref (g.1 + 119)), (1, .int sz.1), (2, .int sz.2.1), (3, .int sz.2.2.1), (4, .int sz.2.2.2.1)] [] sz.2.2.2.2 rz hz) (qg_i rz hz)) z) : qt_At l g (yX12_fresh, cX12_fresh, 6, (some .int)) (d + 7) 0 0 108 [(0, .ref (g.1 + 119)), (1, .int x1), (2, .int x2), (3, .int x3), (4, .int x4)] [.long s2, .int s1, .ref (g.1 + 156)] h rz hz := by
  unfold f_X12_fresh_b108 at E
  refine qt_last (wl_156 h) dX12_fresh_108 E (fun h108 E => ?_)
  refine qt_iinc 4 (fun v109 => [(4, .int v109), (0, .ref (g.1 + 119)), (1, .int x1), (2, .int x2), (3, .int x3)]) dX12_fresh_109 rfl ci_1 (Nat.le_of_ble_eq_true rfl) (fun _ => rfl) E (fun v109 E => ?_)
  refine qt_goto 66 dX12_fresh_112 (by decide) ?_
  cases E
  exact qt_sub _ [1, 2, 3, 4, 0] rfl (G)
noncomputable def f_X12_fresh_b107 (x1 : Int32) (x2 : Int32) (x3 : Int32) (x4 : Int32) (s1 : Int32) (h : qa_M) : Option ((Int32 × Int32 × Int32 × Int32 × qa_M) ⊕ (Int32 × qa_M)) :=
  f_X12_fresh_b108 x1 x2 x3 x4 s1 (0 : Int64) h
set_option maxRecDepth 20000 in
theorem s_X12_fresh_b107 {l : Launch} {g : qa_G} {d : Nat} {rz : Option Value} {hz : qa_M} (x1 : Int32) (x2 : Int32) (x3 : Int32) (x4 : Int32) (s1 : Int32) (h : qa_M) {z : ((Int32 × Int32 × Int32 × Int32 × qa_M) ⊕ (Int32 × qa_M))} (E : f_X12_fresh_b107 x1 x2 x3 x4 s1 h = some z) (G : (Sum.elim (fun (sz : Int32 × Int32 × Int32 × Int32 × qa_M) => qt_At l g (yX12_fresh, cX12_fresh, 6, (some .int)) (d + 7) 0 0 66 [(0, .ref (g.1 + 119)), (1, .int sz.1), (2, .int sz.2.1), (3, .int sz.2.2.1), (4, .int sz.2.2.2.1)] [] sz.2.2.2.2 rz hz) (qg_i rz hz)) z) : qt_At l g (yX12_fresh, cX12_fresh, 6, (some .int)) (d + 7) 0 0 107 [(0, .ref (g.1 + 119)), (1, .int x1), (2, .int x2), (3, .int x3), (4, .int x4)] [.int s1, .ref (g.1 + 156)] h rz hz := by
  unfold f_X12_fresh_b107 at E
  refine qt_lconst dX12_fresh_107 cl_0 ?_
  exact qt_sub _ [0, 1, 2, 3, 4] rfl ((s_X12_fresh_b108 x1 x2 x3 x4 s1 (0 : Int64) h E G))
noncomputable def f_X12_fresh_b66 (x1 : Int32) (x2 : Int32) (x3 : Int32) (x4 : Int32) (h : qa_M) : Option ((Int32 × Int32 × Int32 × Int32 × qa_M) ⊕ (Int32 × qa_M)) :=
  if (36 : Int32) ≤ x4 then (
   qup (f_X12_fresh_b115_loop x1 x3 h))
  else (
   qbn (m_X12_isThere x4 h) (fun (c82 : Int32) (h82 : qa_M) =>
   if c82 = 0 then (
    f_X12_fresh_b107 x1 x2 x3 x4 x4 h82)
   else (
    qbn (m_X12_isWood x4 h82) (fun (c91 : Int32) (h91 : qa_M) =>
    if c91 = 0 then (
     qbn (m_X12_seenFrom x4 x2 h91) (fun (c101 : Int64) (h101 : qa_M) =>
     f_X12_fresh_b108 x1 x2 x3 x4 x4 c101 h101))
    else (
     f_X12_fresh_b107 x1 x2 x3 x4 x4 h91)))))
set_option maxRecDepth 20000 in
theorem s_X12_fresh_b66 {l : Launch} {g : qa_G} {d : Nat} {rz : Option Value} {hz : qa_M} (x1 : Int32) (x2 : Int32) (x3 : Int32) (x4 : Int32) (h : qa_M) {z : ((Int32 × Int32 × Int32 × Int32 × qa_M) ⊕ (Int32 × qa_M))} (E : f_X12_fresh_b66 x1 x2 x3 x4 h = some z) (G : (Sum.elim (fun (sz : Int32 × Int32 × Int32 × Int32 × qa_M) => qt_At l g (yX12_fresh, cX12_fresh, 6, (some .int)) (d + 7) 0 0 66 [(0, .ref (g.1 + 119)), (1, .int sz.1), (2, .int sz.2.1), (3, .int sz.2.2.1), (4, .int sz.2.2.2.1)] [] sz.2.2.2.2 rz hz) (qg_i rz hz)) z) : qt_At l g (yX12_fresh, cX12_fresh, 6, (some .int)) (d + 7) 0 0 66 [(0, .ref (g.1 + 119)), (1, .int x1), (2, .int x2), (3, .int x3), (4, .int x4)] [] h rz hz := by
  unfold f_X12_fresh_b66 at E
  refine qt_iload 4 dX12_fresh_66 rfl ?_
  refine qt_bipush dX12_fresh_68 cb_36 ?_
  refine qt_icmp_ge 115 dX12_fresh_70 (by decide) E (fun E => ?_) (fun E => ?_)
  · obtain ⟨z0_, E, G⟩ := qup_g E G
    exact qt_sub _ [0, 1, 3] rfl ((s_X12_fresh_b115_loop x1 x3 h E G))
  · refine qt_aload_n 0 dX12_fresh_73 rfl rfl ?_
    refine qt_getS 156 (wl_119 h) fe_RX12_124 rfl dX12_fresh_74 ?_
    refine qt_iload 4 dX12_fresh_77 rfl ?_
    refine qt_aload_n 0 dX12_fresh_79 rfl rfl ?_
    refine qt_iload 4 dX12_fresh_80 rfl ?_
    obtain ⟨c82, h82, e82, E⟩ := qbn_el E
    refine qt_callVi (b2 := 0) [.int x4] (c_X12_isThere x4 h e82) cv_RX12_187 (wl_119 h) rfl rfl rfl (Nat.le_of_ble_eq_true rfl) (Nat.le_of_ble_eq_true rfl) dX12_fresh_82 ?_
    refine qt_if_eq 107 dX12_fresh_85 (by decide) E (fun E => ?_) (fun E => ?_)
    · exact qt_sub _ [0, 1, 2, 3, 4] rfl ((s_X12_fresh_b107 x1 x2 x3 x4 x4 h82 E G))
    · refine qt_aload_n 0 dX12_fresh_88 rfl rfl ?_
      refine qt_iload 4 dX12_fresh_89 rfl ?_
      obtain ⟨c91, h91, e91, E⟩ := qbn_el E
      refine qt_callVi (b2 := 0) [.int x4] (c_X12_isWood x4 h82 e91) cv_RX12_183 (wl_119 h82) rfl rfl rfl (Nat.le_of_ble_eq_true rfl) (Nat.le_of_ble_eq_true rfl) dX12_fresh_91 ?_
      refine qt_if_ne 107 dX12_fresh_94 (by decide) E (fun E => ?_) (fun E => ?_)
      · exact qt_sub _ [0, 1, 2, 3, 4] rfl ((s_X12_fresh_b107 x1 x2 x3 x4 x4 h91 E G))
      · refine qt_aload_n 0 dX12_fresh_97 rfl rfl ?_
        refine qt_iload 4 dX12_fresh_98 rfl ?_
        refine qt_iload_n 2 dX12_fresh_100 rfl rfl ?_
        obtain ⟨c101, h101, e101, E⟩ := qbn_el E
        refine qt_callVl (b2 := 0) [.int x4, .int x2] (c_X12_seenFrom x4 x2 h91 e101) cv_RX12_197 (wl_119 h91) rfl rfl rfl (Nat.le_of_ble_eq_true rfl) (Nat.le_of_ble_eq_true rfl) dX12_fresh_101 ?_
        refine qt_goto 108 dX12_fresh_104 (by decide) ?_
        exact qt_sub _ [0, 1, 2, 3, 4] rfl ((s_X12_fresh_b108 x1 x2 x3 x4 x4 c101 h101 E G))
noncomputable def f_X12_fresh_b66_loop (x1 : Int32) (x2 : Int32) (x3 : Int32) (x4 : Int32) (h : qa_M) : Option (Int32 × qa_M) := qlp (fun sz : Int32 × Int32 × Int32 × Int32 × qa_M => f_X12_fresh_b66 sz.1 sz.2.1 sz.2.2.1 sz.2.2.2.1 sz.2.2.2.2) (x1, x2, x3, x4, h)
theorem s_X12_fresh_b66_loop {l : Launch} {g : qa_G} {d : Nat} {rz : Option Value} {hz : qa_M} (x1 : Int32) (x2 : Int32) (x3 : Int32) (x4 : Int32) (h : qa_M) {z : (Int32 × qa_M)} (E : f_X12_fresh_b66_loop x1 x2 x3 x4 h = some z) (G : (qg_i rz hz) z) : qt_At l g (yX12_fresh, cX12_fresh, 6, (some .int)) (d + 7) 0 0 66 [(0, .ref (g.1 + 119)), (1, .int x1), (2, .int x2), (3, .int x3), (4, .int x4)] [] h rz hz :=
  qlp_ind (fun sz : Int32 × Int32 × Int32 × Int32 × qa_M => qt_At l g (yX12_fresh, cX12_fresh, 6, (some .int)) (d + 7) 0 0 66 [(0, .ref (g.1 + 119)), (1, .int sz.1), (2, .int sz.2.1), (3, .int sz.2.2.1), (4, .int sz.2.2.2.1)] [] sz.2.2.2.2 rz hz) (fun sz E => s_X12_fresh_b66 sz.1 sz.2.1 sz.2.2.1 sz.2.2.2.1 sz.2.2.2.2 E G) (fun sz sz2 E ih => s_X12_fresh_b66 sz.1 sz.2.1 sz.2.2.1 sz.2.2.2.1 sz.2.2.2.2 E ih) (x1, x2, x3, x4, h) E
noncomputable def f_X12_fresh_b59 (x1 : Int32) (x2 : Int32) (x3 : Int32) (h : qa_M) : Option (Int32 × qa_M) :=
  qbv (m_X12_beginsLayings h) (fun h60 : qa_M =>
  qbd (0 : Int32) (fun v64 : Int32 =>
  f_X12_fresh_b66_loop x1 x2 x3 v64 h60))
set_option maxRecDepth 20000 in
theorem s_X12_fresh_b59 {l : Launch} {g : qa_G} {d : Nat} {rz : Option Value} {hz : qa_M} (x1 : Int32) (x2 : Int32) (x3 : Int32) (h : qa_M) {z : (Int32 × qa_M)} (E : f_X12_fresh_b59 x1 x2 x3 h = some z) (G : (qg_i rz hz) z) : qt_At l g (yX12_fresh, cX12_fresh, 6, (some .int)) (d + 7) 0 0 59 [(0, .ref (g.1 + 119)), (1, .int x1), (2, .int x2), (3, .int x3)] [] h rz hz := by
  unfold f_X12_fresh_b59 at E
  refine qt_aload_n 0 dX12_fresh_59 rfl rfl ?_
  obtain ⟨h60, e60, E⟩ := qbv_el E
  refine qt_callVv (b2 := 0) [] (c_X12_beginsLayings h e60) cv_RX12_446 (wl_119 h) rfl rfl rfl (Nat.le_of_ble_eq_true rfl) (Nat.le_of_ble_eq_true rfl) dX12_fresh_60 ?_
  refine qt_iconst dX12_fresh_63 ci_0 ?_
  refine qt_istore (fun v64 => [(4, .int v64), (0, .ref (g.1 + 119)), (1, .int x1), (2, .int x2), (3, .int x3)]) dX12_fresh_64 (Nat.le_of_ble_eq_true rfl) (fun _ => rfl) E (fun v64 E => ?_)
  exact qt_sub _ [1, 2, 3, 4, 0] rfl ((s_X12_fresh_b66_loop x1 x2 x3 v64 h60 E G))
noncomputable def f_X12_fresh_b35 (x1 : Int32) (x2 : Int32) (x3 : Int32) (x4 : Int32) (h : qa_M) : Option ((Int32 × Int32 × Int32 × Int32 × qa_M) ⊕ (Int32 × qa_M)) :=
  if (576 : Int32) ≤ x4 then (
   qup (f_X12_fresh_b59 x1 x2 x3 h))
  else (
   qck x4 576 (
   qbd (qw_I h 160 x4.toNatClampNeg (0 : Int32)) (fun h52 : qa_M =>
   qbd (x4 + (1 : Int32)) (fun v53 : Int32 =>
   some (.inl (x1, x2, x3, v53, h52))))))
set_option maxRecDepth 20000 in
theorem s_X12_fresh_b35 {l : Launch} {g : qa_G} {d : Nat} {rz : Option Value} {hz : qa_M} (x1 : Int32) (x2 : Int32) (x3 : Int32) (x4 : Int32) (h : qa_M) {z : ((Int32 × Int32 × Int32 × Int32 × qa_M) ⊕ (Int32 × qa_M))} (E : f_X12_fresh_b35 x1 x2 x3 x4 h = some z) (G : (Sum.elim (fun (sz : Int32 × Int32 × Int32 × Int32 × qa_M) => qt_At l g (yX12_fresh, cX12_fresh, 6, (some .int)) (d + 7) 0 0 35 [(0, .ref (g.1 + 119)), (1, .int sz.1), (2, .int sz.2.1), (3, .int sz.2.2.1), (4, .int sz.2.2.2.1)] [] sz.2.2.2.2 rz hz) (qg_i rz hz)) z) : qt_At l g (yX12_fresh, cX12_fresh, 6, (some .int)) (d + 7) 0 0 35 [(0, .ref (g.1 + 119)), (1, .int x1), (2, .int x2), (3, .int x3), (4, .int x4)] [] h rz hz := by
  unfold f_X12_fresh_b35 at E
  refine qt_iload 4 dX12_fresh_35 rfl ?_
  refine qt_aload_n 0 dX12_fresh_37 rfl rfl ?_
  refine qt_getS 160 (wl_119 h) fe_RX12_136 rfl dX12_fresh_38 ?_
  refine qt_alen (v := (576 : Int32)) (by decide) (wl_160 h) cn_576 dX12_fresh_41 ?_
  refine qt_icmp_ge 59 dX12_fresh_42 (by decide) E (fun E => ?_) (fun E => ?_)
  · obtain ⟨z0_, E, G⟩ := qup_g E G
    exact qt_sub _ [0, 1, 2, 3] rfl ((s_X12_fresh_b59 x1 x2 x3 h E G))
  · refine qt_aload_n 0 dX12_fresh_45 rfl rfl ?_
    refine qt_getS 160 (wl_119 h) fe_RX12_136 rfl dX12_fresh_46 ?_
    refine qt_iload 4 dX12_fresh_49 rfl ?_
    refine qt_iconst dX12_fresh_51 ci_0 ?_
    refine qt_iast (wl_160 h) dX12_fresh_52 E (fun h52 E => ?_)
    refine qt_iinc 4 (fun v53 => [(4, .int v53), (0, .ref (g.1 + 119)), (1, .int x1), (2, .int x2), (3, .int x3)]) dX12_fresh_53 rfl ci_1 (Nat.le_of_ble_eq_true rfl) (fun _ => rfl) E (fun v53 E => ?_)
    refine qt_goto 35 dX12_fresh_56 (by decide) ?_
    cases E
    exact qt_sub _ [1, 2, 3, 4, 0] rfl (G)
noncomputable def f_X12_fresh_b35_loop (x1 : Int32) (x2 : Int32) (x3 : Int32) (x4 : Int32) (h : qa_M) : Option (Int32 × qa_M) := qlp (fun sz : Int32 × Int32 × Int32 × Int32 × qa_M => f_X12_fresh_b35 sz.1 sz.2.1 sz.2.2.1 sz.2.2.2.1 sz.2.2.2.2) (x1, x2, x3, x4, h)
theorem s_X12_fresh_b35_loop {l : Launch} {g : qa_G} {d : Nat} {rz : Option Value} {hz : qa_M} (x1 : Int32) (x2 : Int32) (x3 : Int32) (x4 : Int32) (h : qa_M) {z : (Int32 × qa_M)} (E : f_X12_fresh_b35_loop x1 x2 x3 x4 h = some z) (G : (qg_i rz hz) z) : qt_At l g (yX12_fresh, cX12_fresh, 6, (some .int)) (d + 7) 0 0 35 [(0, .ref (g.1 + 119)), (1, .int x1), (2, .int x2), (3, .int x3), (4, .int x4)] [] h rz hz :=
  qlp_ind (fun sz : Int32 × Int32 × Int32 × Int32 × qa_M => qt_At l g (yX12_fresh, cX12_fresh, 6, (some .int)) (d + 7) 0 0 35 [(0, .ref (g.1 + 119)), (1, .int sz.1), (2, .int sz.2.1), (3, .int sz.2.2.1), (4, .int sz.2.2.2.1)] [] sz.2.2.2.2 rz hz) (fun sz E => s_X12_fresh_b35 sz.1 sz.2.1 sz.2.2.1 sz.2.2.2.1 sz.2.2.2.2 E G) (fun sz sz2 E ih => s_X12_fresh_b35 sz.1 sz.2.1 sz.2.2.1 sz.2.2.2.1 sz.2.2.2.2 E ih) (x1, x2, x3, x4, h) E
noncomputable def m_X12_fresh (x1 : Int32) (x2 : Int32) (x3 : Int32) (h : qa_M) : Option (Int32 × qa_M) :=
  qbn (m_X12_isSet x1 h) (fun (c2 : Int32) (h2 : qa_M) =>
  if c2 = 0 then (
   some ((-1 : Int32), h2))
  else (
   qbn (m_X12_in x2.toInt64 (1 : Int64) (9 : Int64) h2) (fun (c14 : Int32) (h14 : qa_M) =>
   if c14 = 0 then (
    some ((-1 : Int32), h14))
   else (
    qbn (m_X12_in x3.toInt64 (0 : Int64) (1 : Int64) h14) (fun (c24 : Int32) (h24 : qa_M) =>
    if c24 = 0 then (
     some ((-1 : Int32), h24))
    else (
     qbd (0 : Int32) (fun v33 : Int32 =>
     f_X12_fresh_b35_loop x1 x2 x3 v33 h24)))))))
set_option maxRecDepth 20000 in
theorem c_X12_fresh {l : Launch} {g : qa_G} {d : Nat} (x1 : Int32) (x2 : Int32) (x3 : Int32) (h : qa_M) {c : Int32} {h1 : qa_M} (E : m_X12_fresh x1 x2 x3 h = some (c, h1)) : qt_Met l g (yX12_fresh, cX12_fresh, 6, (some .int)) (d + 7) 0 [.ref (g.1 + 119), .int x1, .int x2, .int x3] h (some (.int c)) h1 := by
  refine qt_Met.of (plainFor_of_name (by decide)) (Nat.le_of_ble_eq_true rfl) ?_
  have G : qg_i (some (.int c)) h1 ((c, h1)) := ⟨rfl, rfl⟩
  unfold m_X12_fresh at E
  refine qt_aload_n 0 dX12_fresh_0 rfl rfl ?_
  refine qt_iload_n 1 dX12_fresh_1 rfl rfl ?_
  obtain ⟨c2, h2, e2, E⟩ := qbn_el E
  refine qt_callVi (b2 := 0) [.int x1] (c_X12_isSet x1 h e2) cv_RX12_452 (wl_119 h) rfl rfl rfl (Nat.le_of_ble_eq_true rfl) (Nat.le_of_ble_eq_true rfl) dX12_fresh_2 ?_
  refine qt_if_eq 30 dX12_fresh_5 (by decide) E (fun E => ?_) (fun E => ?_)
  · refine qt_iconst dX12_fresh_30 ci_m1 ?_
    exact qt_ireturn rfl (Nat.le_of_ble_eq_true rfl) dX12_fresh_31 E G
  · refine qt_iload_n 2 dX12_fresh_8 rfl rfl ?_
    refine qt_i2l dX12_fresh_9 ?_
    refine qt_lconst dX12_fresh_10 cl_1 ?_
    refine qt_ldc2 tb_1959 dX12_fresh_11 ?_
    obtain ⟨c14, h14, e14, E⟩ := qbn_el E
    refine qt_callSi (b2 := 0) [.long x2.toInt64, .long (1 : Int64), .long (9 : Int64)] (c_X12_in x2.toInt64 (1 : Int64) (9 : Int64) h2 e14) cv_RX12_161 rfl (Nat.le_of_ble_eq_true rfl) (Nat.le_of_ble_eq_true rfl) dX12_fresh_14 ?_
    refine qt_if_eq 30 dX12_fresh_17 (by decide) E (fun E => ?_) (fun E => ?_)
    · refine qt_iconst dX12_fresh_30 ci_m1 ?_
      exact qt_ireturn rfl (Nat.le_of_ble_eq_true rfl) dX12_fresh_31 E G
    · refine qt_iload_n 3 dX12_fresh_20 rfl rfl ?_
      refine qt_i2l dX12_fresh_21 ?_
      refine qt_lconst dX12_fresh_22 cl_0 ?_
      refine qt_lconst dX12_fresh_23 cl_1 ?_
      obtain ⟨c24, h24, e24, E⟩ := qbn_el E
      refine qt_callSi (b2 := 0) [.long x3.toInt64, .long (0 : Int64), .long (1 : Int64)] (c_X12_in x3.toInt64 (0 : Int64) (1 : Int64) h14 e24) cv_RX12_161 rfl (Nat.le_of_ble_eq_true rfl) (Nat.le_of_ble_eq_true rfl) dX12_fresh_24 ?_
      refine qt_if_ne 32 dX12_fresh_27 (by decide) E (fun E => ?_) (fun E => ?_)
      · refine qt_iconst dX12_fresh_32 ci_0 ?_
        refine qt_istore (fun v33 => [(4, .int v33), (0, .ref (g.1 + 119)), (1, .int x1), (2, .int x2), (3, .int x3)]) dX12_fresh_33 (Nat.le_of_ble_eq_true rfl) (fun _ => rfl) E (fun v33 E => ?_)
        exact qt_sub _ [1, 2, 3, 4, 0] rfl ((s_X12_fresh_b35_loop x1 x2 x3 v33 h24 E G))
      · refine qt_iconst dX12_fresh_30 ci_m1 ?_
        exact qt_ireturn rfl (Nat.le_of_ble_eq_true rfl) dX12_fresh_31 E G
noncomputable def f_X12_spreads_b139 (x2 : Int32) (x3 : Int32) (h : qa_M) : Option ((Int32 × Int32 × qa_M) ⊕ qa_M) :=
  qbd (x3 + (1 : Int32)) (fun v139 : Int32 =>
  some (.inl (x2, v139, h)))
set_option maxRecDepth 20000 in
theorem s_X12_spreads_b139 {l : Launch} {g : qa_G} {d : Nat} {rz : Option Value} {hz : qa_M} (x2 : Int32) (x3 : Int32) (h : qa_M) {z : ((Int32 × Int32 × qa_M) ⊕ qa_M)} (E : f_X12_spreads_b139 x2 x3 h = some z) (G : (Sum.elim (fun (sz : Int32 × Int32 × qa_M) => qt_At l g (yX12_spreads, cX12_spreads, 5, none) (d + 3) 0 0 41 [(0, .ref (g.1 + 119)), (2, .int sz.1), (3, .int sz.2.1)] [] sz.2.2 rz hz) (qg_v rz hz)) z) : qt_At l g (yX12_spreads, cX12_spreads, 5, none) (d + 3) 0 0 139 [(0, .ref (g.1 + 119)), (2, .int x2), (3, .int x3)] [] h rz hz := by
  unfold f_X12_spreads_b139 at E
  refine qt_iinc 2 (fun v139 => [(3, .int v139), (0, .ref (g.1 + 119)), (2, .int x2)]) dX12_spreads_139 rfl ci_1 (Nat.le_of_ble_eq_true rfl) (fun _ => rfl) E (fun v139 E => ?_)
  refine qt_goto 41 dX12_spreads_142 (by decide) ?_
  cases E
  exact qt_sub _ [1, 2, 0] rfl (G)
noncomputable def f_X12_spreads_b133 (x2 : Int32) (x3 : Int32) (x4 : Int32) (h : qa_M) : Option ((Int32 × Int32 × Int32 × qa_M) ⊕ ((Int32 × Int32 × qa_M) ⊕ qa_M)) :=
  qbd (x4 + (1 : Int32)) (fun v133 : Int32 =>
  some (.inl (x2, x3, v133, h)))
set_option maxRecDepth 20000 in
theorem s_X12_spreads_b133 {l : Launch} {g : qa_G} {d : Nat} {rz : Option Value} {hz : qa_M} (x2 : Int32) (x3 : Int32) (x4 : Int32) (h : qa_M) {z : ((Int32 × Int32 × Int32 × qa_M) ⊕ ((Int32 × Int32 × qa_M) ⊕ qa_M))} (E : f_X12_spreads_b133 x2 x3 x4 h = some z) (G : (Sum.elim (fun (sz : Int32 × Int32 × Int32 × qa_M) => qt_At l g (yX12_spreads, cX12_spreads, 5, none) (d + 3) 0 0 49 [(0, .ref (g.1 + 119)), (2, .int sz.1), (3, .int sz.2.1), (4, .int sz.2.2.1)] [] sz.2.2.2 rz hz) (Sum.elim (fun (sz : Int32 × Int32 × qa_M) => qt_At l g (yX12_spreads, cX12_spreads, 5, none) (d + 3) 0 0 41 [(0, .ref (g.1 + 119)), (2, .int sz.1), (3, .int sz.2.1)] [] sz.2.2 rz hz) (qg_v rz hz))) z) : qt_At l g (yX12_spreads, cX12_spreads, 5, none) (d + 3) 0 0 133 [(0, .ref (g.1 + 119)), (2, .int x2), (3, .int x3), (4, .int x4)] [] h rz hz := by
  unfold f_X12_spreads_b133 at E
  refine qt_iinc 3 (fun v133 => [(4, .int v133), (0, .ref (g.1 + 119)), (2, .int x2), (3, .int x3)]) dX12_spreads_133 rfl ci_1 (Nat.le_of_ble_eq_true rfl) (fun _ => rfl) E (fun v133 E => ?_)
  refine qt_goto 49 dX12_spreads_136 (by decide) ?_
  cases E
  exact qt_sub _ [1, 2, 3, 0] rfl (G)
noncomputable def f_X12_spreads_b49 (x2 : Int32) (x3 : Int32) (x4 : Int32) (h : qa_M) : Option ((Int32 × Int32 × Int32 × qa_M) ⊕ ((Int32 × Int32 × qa_M) ⊕ qa_M)) :=
  if (36 : Int32) ≤ x4 then (
   qup (f_X12_spreads_b139 x2 x3 h))
  else (
   qbn (m_X12_isThere x4 h) (fun (c59 : Int32) (h59 : qa_M) =>
   if c59 = 0 then (
    f_X12_spreads_b133 x2 x3 x4 h59)
   else (
    qbn (m_X12_isWood x4 h59) (fun (c68 : Int32) (h68 : qa_M) =>
    if c68 = 0 then (
     qck x3 36 (
     qbn (m_X12_apartOf x4 (h68.1 162 x3.toNatClampNeg) h68) (fun (c82 : Int32) (h82 : qa_M) =>
     if c82 = (1 : Int32) then (
      qck x4 36 (
      if (h82.1 161 x4.toNatClampNeg) = (99999 : Int32) then (
       qck x3 36 (
       qck (h82.1 162 x3.toNatClampNeg) 36 (
       qck x4 36 (
       qbd (qw_I h82 161 x4.toNatClampNeg ((h82.1 161 (h82.1 162 x3.toNatClampNeg).toNatClampNeg) + (1 : Int32))) (fun h121 : qa_M =>
       qck x2 36 (
       qbd (qw_I h121 162 x2.toNatClampNeg x4) (fun h129 : qa_M =>
       qbd (x2 + (1 : Int32)) (fun v130 : Int32 =>
       f_X12_spreads_b133 v130 x3 x4 h129))))))))
      else (
       f_X12_spreads_b133 x2 x3 x4 h82)))
     else (
      f_X12_spreads_b133 x2 x3 x4 h82))))
    else (
     f_X12_spreads_b133 x2 x3 x4 h68)))))
set_option maxRecDepth 20000 in
theorem s_X12_spreads_b49 {l : Launch} {g : qa_G} {d : Nat} {rz : Option Value} {hz : qa_M} (x2 : Int32) (x3 : Int32) (x4 : Int32) (h : qa_M) {z : ((Int32 × Int32 × Int32 × qa_M) ⊕ ((Int32 × Int32 × qa_M) ⊕ qa_M))} (E : f_X12_spreads_b49 x2 x3 x4 h = some z) (G : (Sum.elim (fun (sz : Int32 × Int32 × Int32 × qa_M) => qt_At l g (yX12_spreads, cX12_spreads, 5, none) (d + 3) 0 0 49 [(0, .ref (g.1 + 119)), (2, .int sz.1), (3, .int sz.2.1), (4, .int sz.2.2.1)] [] sz.2.2.2 rz hz) (Sum.elim (fun (sz : Int32 × Int32 × qa_M) => qt_At l g (yX12_spreads, cX12_spreads, 5, none) (d + 3) 0 0 41 [(0, .ref (g.1 + 119)), (2, .int sz.1), (3, .int sz.2.1)] [] sz.2.2 rz hz) (qg_v rz hz))) z) : qt_At l g (yX12_spreads, cX12_spreads, 5, none) (d + 3) 0 0 49 [(0, .ref (g.1 + 119)), (2, .int x2), (3, .int x3), (4, .int x4)] [] h rz hz := by
  unfold f_X12_spreads_b49 at E
  refine qt_iload 3 dX12_spreads_49 rfl ?_
  refine qt_bipush dX12_spreads_51 cb_36 ?_
  refine qt_icmp_ge 139 dX12_spreads_53 (by decide) E (fun E => ?_) (fun E => ?_)
  · obtain ⟨z0_, E, G⟩ := qup_g E G
    exact qt_sub _ [0, 1, 2] rfl ((s_X12_spreads_b139 x2 x3 h E G))
  · refine qt_aload_n 0 dX12_spreads_56 rfl rfl ?_
    refine qt_iload 3 dX12_spreads_57 rfl ?_
    obtain ⟨c59, h59, e59, E⟩ := qbn_el E
    refine qt_callVi (b2 := 0) [.int x4] (c_X12_isThere x4 h e59) cv_RX12_187 (wl_119 h) rfl rfl rfl (Nat.le_of_ble_eq_true rfl) (Nat.le_of_ble_eq_true rfl) dX12_spreads_59 ?_
    refine qt_if_eq 133 dX12_spreads_62 (by decide) E (fun E => ?_) (fun E => ?_)
    · exact qt_sub _ [0, 1, 2, 3] rfl ((s_X12_spreads_b133 x2 x3 x4 h59 E G))
    · refine qt_aload_n 0 dX12_spreads_65 rfl rfl ?_
      refine qt_iload 3 dX12_spreads_66 rfl ?_
      obtain ⟨c68, h68, e68, E⟩ := qbn_el E
      refine qt_callVi (b2 := 0) [.int x4] (c_X12_isWood x4 h59 e68) cv_RX12_183 (wl_119 h59) rfl rfl rfl (Nat.le_of_ble_eq_true rfl) (Nat.le_of_ble_eq_true rfl) dX12_spreads_68 ?_
      refine qt_if_ne 133 dX12_spreads_71 (by decide) E (fun E => ?_) (fun E => ?_)
      · exact qt_sub _ [0, 1, 2, 3] rfl ((s_X12_spreads_b133 x2 x3 x4 h68 E G))
      · refine qt_iload 3 dX12_spreads_74 rfl ?_
        refine qt_aload_n 0 dX12_spreads_76 rfl rfl ?_
        refine qt_getS 162 (wl_119 h68) fe_RX12_142 rfl dX12_spreads_77 ?_
        refine qt_iload_n 2 dX12_spreads_80 rfl rfl ?_
        refine qt_iald (wl_162 h68) dX12_spreads_81 E (fun E => ?_)
        obtain ⟨c82, h82, e82, E⟩ := qbn_el E
        refine qt_callSi (b2 := 0) [.int x4, .int (h68.1 162 x3.toNatClampNeg)] (c_X12_apartOf x4 (h68.1 162 x3.toNatClampNeg) h68 e82) cv_RX12_176 rfl (Nat.le_of_ble_eq_true rfl) (Nat.le_of_ble_eq_true rfl) dX12_spreads_82 ?_
        refine qt_iconst dX12_spreads_85 ci_1 ?_
        refine qt_icmp_ne 133 dX12_spreads_86 (by decide) E (fun E => ?_) (fun E => ?_)
        · exact qt_sub _ [0, 1, 2, 3] rfl ((s_X12_spreads_b133 x2 x3 x4 h82 E G))
        · refine qt_aload_n 0 dX12_spreads_89 rfl rfl ?_
          refine qt_getS 161 (wl_119 h82) fe_RX12_139 rfl dX12_spreads_90 ?_
          refine qt_iload 3 dX12_spreads_93 rfl ?_
          refine qt_iald (wl_161 h82) dX12_spreads_95 E (fun E => ?_)
          refine qt_ldcw tb_1639 dX12_spreads_96 ?_
          refine qt_icmp_ne 133 dX12_spreads_99 (by decide) E (fun E => ?_) (fun E => ?_)
          · exact qt_sub _ [0, 1, 2, 3] rfl ((s_X12_spreads_b133 x2 x3 x4 h82 E G))
          · refine qt_aload_n 0 dX12_spreads_102 rfl rfl ?_
            refine qt_getS 161 (wl_119 h82) fe_RX12_139 rfl dX12_spreads_103 ?_
            refine qt_iload 3 dX12_spreads_106 rfl ?_
            refine qt_aload_n 0 dX12_spreads_108 rfl rfl ?_
            refine qt_getS 161 (wl_119 h82) fe_RX12_139 rfl dX12_spreads_109 ?_
            refine qt_aload_n 0 dX12_spreads_112 rfl rfl ?_
            refine qt_getS 162 (wl_119 h82) fe_RX12_142 rfl dX12_spreads_113 ?_
            refine qt_iload_n 2 dX12_spreads_116 rfl rfl ?_
            refine qt_iald (wl_162 h82) dX12_spreads_117 E (fun E => ?_)
            refine qt_iald (wl_161 h82) dX12_spreads_118 E (fun E => ?_)
            refine qt_iconst dX12_spreads_119 ci_1 ?_
            refine qt_iadd dX12_spreads_120 ?_
            refine qt_iast (wl_161 h82) dX12_spreads_121 E (fun h121 E => ?_)
            refine qt_aload_n 0 dX12_spreads_122 rfl rfl ?_
            refine qt_getS 162 (wl_119 h121) fe_RX12_142 rfl dX12_spreads_123 ?_
            refine qt_iload_n 1 dX12_spreads_126 rfl rfl ?_
            refine qt_iload 3 dX12_spreads_127 rfl ?_
            refine qt_iast (wl_162 h121) dX12_spreads_129 E (fun h129 E => ?_)
            refine qt_iinc 1 (fun v130 => [(2, .int v130), (0, .ref (g.1 + 119)), (3, .int x3), (4, .int x4)]) dX12_spreads_130 rfl ci_1 (Nat.le_of_ble_eq_true rfl) (fun _ => rfl) E (fun v130 E => ?_)
            exact qt_sub _ [1, 0, 2, 3] rfl ((s_X12_spreads_b133 v130 x3 x4 h129 E G))
noncomputable def f_X12_spreads_b49_loop (x2 : Int32) (x3 : Int32) (x4 : Int32) (h : qa_M) : Option ((Int32 × Int32 × qa_M) ⊕ qa_M) := qlp (fun sz : Int32 × Int32 × Int32 × qa_M => f_X12_spreads_b49 sz.1 sz.2.1 sz.2.2.1 sz.2.2.2) (x2, x3, x4, h)
theorem s_X12_spreads_b49_loop {l : Launch} {g : qa_G} {d : Nat} {rz : Option Value} {hz : qa_M} (x2 : Int32) (x3 : Int32) (x4 : Int32) (h : qa_M) {z : ((Int32 × Int32 × qa_M) ⊕ qa_M)} (E : f_X12_spreads_b49_loop x2 x3 x4 h = some z) (G : (Sum.elim (fun (sz : Int32 × Int32 × qa_M) => qt_At l g (yX12_spreads, cX12_spreads, 5, none) (d + 3) 0 0 41 [(0, .ref (g.1 + 119)), (2, .int sz.1), (3, .int sz.2.1)] [] sz.2.2 rz hz) (qg_v rz hz)) z) : qt_At l g (yX12_spreads, cX12_spreads, 5, none) (d + 3) 0 0 49 [(0, .ref (g.1 + 119)), (2, .int x2), (3, .int x3), (4, .int x4)] [] h rz hz :=
  qlp_ind (fun sz : Int32 × Int32 × Int32 × qa_M => qt_At l g (yX12_spreads, cX12_spreads, 5, none) (d + 3) 0 0 49 [(0, .ref (g.1 + 119)), (2, .int sz.1), (3, .int sz.2.1), (4, .int sz.2.2.1)] [] sz.2.2.2 rz hz) (fun sz E => s_X12_spreads_b49 sz.1 sz.2.1 sz.2.2.1 sz.2.2.2 E G) (fun sz sz2 E ih => s_X12_spreads_b49 sz.1 sz.2.1 sz.2.2.1 sz.2.2.2 E ih) (x2, x3, x4, h) E
noncomputable def f_X12_spreads_b41 (x2 : Int32) (x3 : Int32) (h : qa_M) : Option ((Int32 × Int32 × qa_M) ⊕ qa_M) :=
  if x2 ≤ x3 then (
   qup (some h))
  else (
   qbd (0 : Int32) (fun v47 : Int32 =>
   f_X12_spreads_b49_loop x2 x3 v47 h))
set_option maxRecDepth 20000 in
theorem s_X12_spreads_b41 {l : Launch} {g : qa_G} {d : Nat} {rz : Option Value} {hz : qa_M} (x2 : Int32) (x3 : Int32) (h : qa_M) {z : ((Int32 × Int32 × qa_M) ⊕ qa_M)} (E : f_X12_spreads_b41 x2 x3 h = some z) (G : (Sum.elim (fun (sz : Int32 × Int32 × qa_M) => qt_At l g (yX12_spreads, cX12_spreads, 5, none) (d + 3) 0 0 41 [(0, .ref (g.1 + 119)), (2, .int sz.1), (3, .int sz.2.1)] [] sz.2.2 rz hz) (qg_v rz hz)) z) : qt_At l g (yX12_spreads, cX12_spreads, 5, none) (d + 3) 0 0 41 [(0, .ref (g.1 + 119)), (2, .int x2), (3, .int x3)] [] h rz hz := by
  unfold f_X12_spreads_b41 at E
  refine qt_iload_n 2 dX12_spreads_41 rfl rfl ?_
  refine qt_iload_n 1 dX12_spreads_42 rfl rfl ?_
  refine qt_icmp_ge 145 dX12_spreads_43 (by decide) E (fun E => ?_) (fun E => ?_)
  · obtain ⟨z0_, E, G⟩ := qup_g E G
    exact qt_vreturn rfl (Nat.le_of_ble_eq_true rfl) dX12_spreads_145 E G
  · refine qt_iconst dX12_spreads_46 ci_0 ?_
    refine qt_istore (fun v47 => [(4, .int v47), (0, .ref (g.1 + 119)), (2, .int x2), (3, .int x3)]) dX12_spreads_47 (Nat.le_of_ble_eq_true rfl) (fun _ => rfl) E (fun v47 E => ?_)
    exact qt_sub _ [1, 2, 3, 0] rfl ((s_X12_spreads_b49_loop x2 x3 v47 h E G))
noncomputable def f_X12_spreads_b41_loop (x2 : Int32) (x3 : Int32) (h : qa_M) : Option qa_M := qlp (fun sz : Int32 × Int32 × qa_M => f_X12_spreads_b41 sz.1 sz.2.1 sz.2.2) (x2, x3, h)
theorem s_X12_spreads_b41_loop {l : Launch} {g : qa_G} {d : Nat} {rz : Option Value} {hz : qa_M} (x2 : Int32) (x3 : Int32) (h : qa_M) {z : qa_M} (E : f_X12_spreads_b41_loop x2 x3 h = some z) (G : (qg_v rz hz) z) : qt_At l g (yX12_spreads, cX12_spreads, 5, none) (d + 3) 0 0 41 [(0, .ref (g.1 + 119)), (2, .int x2), (3, .int x3)] [] h rz hz :=
  qlp_ind (fun sz : Int32 × Int32 × qa_M => qt_At l g (yX12_spreads, cX12_spreads, 5, none) (d + 3) 0 0 41 [(0, .ref (g.1 + 119)), (2, .int sz.1), (3, .int sz.2.1)] [] sz.2.2 rz hz) (fun sz E => s_X12_spreads_b41 sz.1 sz.2.1 sz.2.2 E G) (fun sz sz2 E ih => s_X12_spreads_b41 sz.1 sz.2.1 sz.2.2 E ih) (x2, x3, h) E
noncomputable def f_X12_spreads_b23 (x1 : Int32) (h : qa_M) : Option qa_M :=
  qck x1 36 (
  qbd (qw_I h 161 x1.toNatClampNeg (0 : Int32)) (fun h29 : qa_M =>
  qck (0 : Int32) 36 (
  qbd (qw_I h29 162 (0 : Int32).toNatClampNeg x1) (fun h36 : qa_M =>
  qbd (1 : Int32) (fun v38 : Int32 =>
  qbd (0 : Int32) (fun v40 : Int32 =>
  f_X12_spreads_b41_loop v38 v40 h36))))))
set_option maxRecDepth 20000 in
theorem s_X12_spreads_b23 {l : Launch} {g : qa_G} {d : Nat} {rz : Option Value} {hz : qa_M} (x1 : Int32) (h : qa_M) {z : qa_M} (E : f_X12_spreads_b23 x1 h = some z) (G : (qg_v rz hz) z) : qt_At l g (yX12_spreads, cX12_spreads, 5, none) (d + 3) 0 0 23 [(0, .ref (g.1 + 119)), (1, .int x1)] [] h rz hz := by
  unfold f_X12_spreads_b23 at E
  refine qt_aload_n 0 dX12_spreads_23 rfl rfl ?_
  refine qt_getS 161 (wl_119 h) fe_RX12_139 rfl dX12_spreads_24 ?_
  refine qt_iload_n 1 dX12_spreads_27 rfl rfl ?_
  refine qt_iconst dX12_spreads_28 ci_0 ?_
  refine qt_iast (wl_161 h) dX12_spreads_29 E (fun h29 E => ?_)
  refine qt_aload_n 0 dX12_spreads_30 rfl rfl ?_
  refine qt_getS 162 (wl_119 h29) fe_RX12_142 rfl dX12_spreads_31 ?_
  refine qt_iconst dX12_spreads_34 ci_0 ?_
  refine qt_iload_n 1 dX12_spreads_35 rfl rfl ?_
  refine qt_iast (wl_162 h29) dX12_spreads_36 E (fun h36 E => ?_)
  refine qt_iconst dX12_spreads_37 ci_1 ?_
  refine qt_istore_n (fun v38 => [(2, .int v38), (0, .ref (g.1 + 119)), (1, .int x1)]) dX12_spreads_38 rfl (Nat.le_of_ble_eq_true rfl) (fun _ => rfl) E (fun v38 E => ?_)
  refine qt_iconst dX12_spreads_39 ci_0 ?_
  refine qt_istore_n (fun v40 => [(3, .int v40), (2, .int v38), (0, .ref (g.1 + 119)), (1, .int x1)]) dX12_spreads_40 rfl (Nat.le_of_ble_eq_true rfl) (fun _ => rfl) E (fun v40 E => ?_)
  exact qt_sub _ [2, 1, 0] rfl ((s_X12_spreads_b41_loop v38 v40 h36 E G))
noncomputable def f_X12_spreads_b2 (x1 : Int32) (x2 : Int32) (h : qa_M) : Option ((Int32 × Int32 × qa_M) ⊕ qa_M) :=
  if (36 : Int32) ≤ x2 then (
   qup (f_X12_spreads_b23 x1 h))
  else (
   qck x2 36 (
   qbd (qw_I h 161 x2.toNatClampNeg (99999 : Int32)) (fun h16 : qa_M =>
   qbd (x2 + (1 : Int32)) (fun v17 : Int32 =>
   some (.inl (x1, v17, h16))))))
set_option maxRecDepth 20000 in
theorem s_X12_spreads_b2 {l : Launch} {g : qa_G} {d : Nat} {rz : Option Value} {hz : qa_M} (x1 : Int32) (x2 : Int32) (h : qa_M) {z : ((Int32 × Int32 × qa_M) ⊕ qa_M)} (E : f_X12_spreads_b2 x1 x2 h = some z) (G : (Sum.elim (fun (sz : Int32 × Int32 × qa_M) => qt_At l g (yX12_spreads, cX12_spreads, 5, none) (d + 3) 0 0 2 [(0, .ref (g.1 + 119)), (1, .int sz.1), (2, .int sz.2.1)] [] sz.2.2 rz hz) (qg_v rz hz)) z) : qt_At l g (yX12_spreads, cX12_spreads, 5, none) (d + 3) 0 0 2 [(0, .ref (g.1 + 119)), (1, .int x1), (2, .int x2)] [] h rz hz := by
  unfold f_X12_spreads_b2 at E
  refine qt_iload_n 2 dX12_spreads_2 rfl rfl ?_
  refine qt_bipush dX12_spreads_3 cb_36 ?_
  refine qt_icmp_ge 23 dX12_spreads_5 (by decide) E (fun E => ?_) (fun E => ?_)
  · obtain ⟨z0_, E, G⟩ := qup_g E G
    exact qt_sub _ [0, 1] rfl ((s_X12_spreads_b23 x1 h E G))
  · refine qt_aload_n 0 dX12_spreads_8 rfl rfl ?_
    refine qt_getS 161 (wl_119 h) fe_RX12_139 rfl dX12_spreads_9 ?_
    refine qt_iload_n 2 dX12_spreads_12 rfl rfl ?_
    refine qt_ldcw tb_1639 dX12_spreads_13 ?_
    refine qt_iast (wl_161 h) dX12_spreads_16 E (fun h16 E => ?_)
    refine qt_iinc 2 (fun v17 => [(2, .int v17), (0, .ref (g.1 + 119)), (1, .int x1)]) dX12_spreads_17 rfl ci_1 (Nat.le_of_ble_eq_true rfl) (fun _ => rfl) E (fun v17 E => ?_)
    refine qt_goto 2 dX12_spreads_20 (by decide) ?_
    cases E
    exact qt_sub _ [1, 2, 0] rfl (G)
noncomputable def f_X12_spreads_b2_loop (x1 : Int32) (x2 : Int32) (h : qa_M) : Option qa_M := qlp (fun sz : Int32 × Int32 × qa_M => f_X12_spreads_b2 sz.1 sz.2.1 sz.2.2) (x1, x2, h)
theorem s_X12_spreads_b2_loop {l : Launch} {g : qa_G} {d : Nat} {rz : Option Value} {hz : qa_M} (x1 : Int32) (x2 : Int32) (h : qa_M) {z : qa_M} (E : f_X12_spreads_b2_loop x1 x2 h = some z) (G : (qg_v rz hz) z) : qt_At l g (yX12_spreads, cX12_spreads, 5, none) (d + 3) 0 0 2 [(0, .ref (g.1 + 119)), (1, .int x1), (2, .int x2)] [] h rz hz :=
  qlp_ind (fun sz : Int32 × Int32 × qa_M => qt_At l g (yX12_spreads, cX12_spreads, 5, none) (d + 3) 0 0 2 [(0, .ref (g.1 + 119)), (1, .int sz.1), (2, .int sz.2.1)] [] sz.2.2 rz hz) (fun sz E => s_X12_spreads_b2 sz.1 sz.2.1 sz.2.2 E G) (fun sz sz2 E ih => s_X12_spreads_b2 sz.1 sz.2.1 sz.2.2 E ih) (x1, x2, h) E
noncomputable def m_X12_spreads (x1 : Int32) (h : qa_M) : Option qa_M :=
  qbd (0 : Int32) (fun v1 : Int32 =>
  f_X12_spreads_b2_loop x1 v1 h)
set_option maxRecDepth 20000 in
theorem c_X12_spreads {l : Launch} {g : qa_G} {d : Nat} (x1 : Int32) (h : qa_M) {h1 : qa_M} (E : m_X12_spreads x1 h = some h1) : qt_Met l g (yX12_spreads, cX12_spreads, 5, none) (d + 3) 0 [.ref (g.1 + 119), .int x1] h none h1 := by
  refine qt_Met.of (plainFor_of_name (by decide)) (Nat.le_of_ble_eq_true rfl) ?_
  have G : qg_v none h1 (h1) := ⟨rfl, rfl⟩
  unfold m_X12_spreads at E
  refine qt_iconst dX12_spreads_0 ci_0 ?_
  refine qt_istore_n (fun v1 => [(2, .int v1), (0, .ref (g.1 + 119)), (1, .int x1)]) dX12_spreads_1 rfl (Nat.le_of_ble_eq_true rfl) (fun _ => rfl) E (fun v1 E => ?_)
  exact qt_sub _ [1, 2, 0] rfl ((s_X12_spreads_b2_loop x1 v1 h E G))
noncomputable def f_X12_walk_b358 (x4 : Int32) (h : qa_M) : Option (Int32 × qa_M) :=
  if x4 < (99999 : Int32) then (
   some (x4, h))
  else (
   some ((-2 : Int32), h))
set_option maxRecDepth 20000 in
theorem s_X12_walk_b358 {l : Launch} {g : qa_G} {d : Nat} {rz : Option Value} {hz : qa_M} (x4 : Int32) (h : qa_M) {z : (Int32 × qa_M)} (E : f_X12_walk_b358 x4 h = some z) (G : (qg_i rz hz) z) : qt_At l g (yX12_walk, cX12_walk, 10, (some .int)) (d + 4) 0 0 358 [(4, .int x4)] [] h rz hz := by
  unfold f_X12_walk_b358 at E
  refine qt_iload 0 dX12_walk_358 rfl ?_
  refine qt_ldcw tb_1639 dX12_walk_360 ?_
  refine qt_icmp_lt 371 dX12_walk_363 (by decide) E (fun E => ?_) (fun E => ?_)
  · refine qt_iload 0 dX12_walk_371 rfl ?_
    exact qt_ireturn rfl (Nat.le_of_ble_eq_true rfl) dX12_walk_373 E G
  · refine qt_bipush dX12_walk_366 cb_m2 ?_
    refine qt_goto 373 dX12_walk_368 (by decide) ?_
    exact qt_ireturn rfl (Nat.le_of_ble_eq_true rfl) dX12_walk_373 E G
noncomputable def f_X12_walk_b352 (x2 : Int32) (x4 : Int32) (x5 : Int32) (h : qa_M) : Option ((Int32 × Int32 × Int32 × qa_M) ⊕ (Int32 × qa_M)) :=
  qbd (x5 + (1 : Int32)) (fun v352 : Int32 =>
  some (.inl (x2, x4, v352, h)))
set_option maxRecDepth 20000 in
theorem s_X12_walk_b352 {l : Launch} {g : qa_G} {d : Nat} {rz : Option Value} {hz : qa_M} (x2 : Int32) (x4 : Int32) (x5 : Int32) (h : qa_M) {z : ((Int32 × Int32 × Int32 × qa_M) ⊕ (Int32 × qa_M))} (E : f_X12_walk_b352 x2 x4 x5 h = some z) (G : (Sum.elim (fun (sz : Int32 × Int32 × Int32 × qa_M) => qt_At l g (yX12_walk, cX12_walk, 10, (some .int)) (d + 4) 0 0 163 [(0, .ref (g.1 + 119)), (2, .int sz.1), (4, .int sz.2.1), (5, .int sz.2.2.1)] [] sz.2.2.2 rz hz) (qg_i rz hz)) z) : qt_At l g (yX12_walk, cX12_walk, 10, (some .int)) (d + 4) 0 0 352 [(0, .ref (g.1 + 119)), (2, .int x2), (4, .int x4), (5, .int x5)] [] h rz hz := by
  unfold f_X12_walk_b352 at E
  refine qt_iinc 3 (fun v352 => [(5, .int v352), (0, .ref (g.1 + 119)), (2, .int x2), (4, .int x4)]) dX12_walk_352 rfl ci_1 (Nat.le_of_ble_eq_true rfl) (fun _ => rfl) E (fun v352 E => ?_)
  refine qt_goto 163 dX12_walk_355 (by decide) ?_
  cases E
  exact qt_sub _ [1, 2, 3, 0] rfl (G)
noncomputable def f_X12_walk_b346 (x2 : Int32) (x4 : Int32) (x5 : Int32) (x6 : Int32) (h : qa_M) : Option ((Int32 × Int32 × Int32 × Int32 × qa_M) ⊕ ((Int32 × Int32 × Int32 × qa_M) ⊕ (Int32 × qa_M))) :=
  qbd (x6 + (1 : Int32)) (fun v346 : Int32 =>
  some (.inl (x2, x4, x5, v346, h)))
set_option maxRecDepth 20000 in
theorem s_X12_walk_b346 {l : Launch} {g : qa_G} {d : Nat} {rz : Option Value} {hz : qa_M} (x2 : Int32) (x4 : Int32) (x5 : Int32) (x6 : Int32) (h : qa_M) {z : ((Int32 × Int32 × Int32 × Int32 × qa_M) ⊕ ((Int32 × Int32 × Int32 × qa_M) ⊕ (Int32 × qa_M)))} (E : f_X12_walk_b346 x2 x4 x5 x6 h = some z) (G : (Sum.elim (fun (sz : Int32 × Int32 × Int32 × Int32 × qa_M) => qt_At l g (yX12_walk, cX12_walk, 10, (some .int)) (d + 4) 0 0 174 [(0, .ref (g.1 + 119)), (2, .int sz.1), (4, .int sz.2.1), (5, .int sz.2.2.1), (6, .int sz.2.2.2.1)] [] sz.2.2.2.2 rz hz) (Sum.elim (fun (sz : Int32 × Int32 × Int32 × qa_M) => qt_At l g (yX12_walk, cX12_walk, 10, (some .int)) (d + 4) 0 0 163 [(0, .ref (g.1 + 119)), (2, .int sz.1), (4, .int sz.2.1), (5, .int sz.2.2.1)] [] sz.2.2.2 rz hz) (qg_i rz hz))) z) : qt_At l g (yX12_walk, cX12_walk, 10, (some .int)) (d + 4) 0 0 346 [(0, .ref (g.1 + 119)), (2, .int x2), (4, .int x4), (5, .int x5), (6, .int x6)] [] h rz hz := by
  unfold f_X12_walk_b346 at E
  refine qt_iinc 4 (fun v346 => [(6, .int v346), (0, .ref (g.1 + 119)), (2, .int x2), (4, .int x4), (5, .int x5)]) dX12_walk_346 rfl ci_1 (Nat.le_of_ble_eq_true rfl) (fun _ => rfl) E (fun v346 E => ?_)
  refine qt_goto 174 dX12_walk_349 (by decide) ?_
  cases E
  exact qt_sub _ [1, 2, 3, 4, 0] rfl (G)
noncomputable def f_X12_walk_b340 (x2 : Int32) (x4 : Int32) (x5 : Int32) (x6 : Int32) (x7 : Int32) (h : qa_M) : Option ((Int32 × Int32 × Int32 × Int32 × Int32 × qa_M) ⊕ ((Int32 × Int32 × Int32 × Int32 × qa_M) ⊕ ((Int32 × Int32 × Int32 × qa_M) ⊕ (Int32 × qa_M)))) :=
  qbd (x7 + (1 : Int32)) (fun v340 : Int32 =>
  some (.inl (x2, x4, x5, x6, v340, h)))
set_option maxRecDepth 20000 in
theorem s_X12_walk_b340 {l : Launch} {g : qa_G} {d : Nat} {rz : Option Value} {hz : qa_M} (x2 : Int32) (x4 : Int32) (x5 : Int32) (x6 : Int32) (x7 : Int32) (h : qa_M) {z : ((Int32 × Int32 × Int32 × Int32 × Int32 × qa_M) ⊕ ((Int32 × Int32 × Int32 × Int32 × qa_M) ⊕ ((Int32 × Int32 × Int32 × qa_M) ⊕ (Int32 × qa_M))))} (E : f_X12_walk_b340 x2 x4 x5 x6 x7 h = some z) (G : (Sum.elim (fun (sz : Int32 × Int32 × Int32 × Int32 × Int32 × qa_M) => qt_At l g (yX12_walk, cX12_walk, 10, (some .int)) (d + 4) 0 0 184 [(0, .ref (g.1 + 119)), (2, .int sz.1), (4, .int sz.2.1), (5, .int sz.2.2.1), (6, .int sz.2.2.2.1), (7, .int sz.2.2.2.2.1)] [] sz.2.2.2.2.2 rz hz) (Sum.elim (fun (sz : Int32 × Int32 × Int32 × Int32 × qa_M) => qt_At l g (yX12_walk, cX12_walk, 10, (some .int)) (d + 4) 0 0 174 [(0, .ref (g.1 + 119)), (2, .int sz.1), (4, .int sz.2.1), (5, .int sz.2.2.1), (6, .int sz.2.2.2.1)] [] sz.2.2.2.2 rz hz) (Sum.elim (fun (sz : Int32 × Int32 × Int32 × qa_M) => qt_At l g (yX12_walk, cX12_walk, 10, (some .int)) (d + 4) 0 0 163 [(0, .ref (g.1 + 119)), (2, .int sz.1), (4, .int sz.2.1), (5, .int sz.2.2.1)] [] sz.2.2.2 rz hz) (qg_i rz hz)))) z) : qt_At l g (yX12_walk, cX12_walk, 10, (some .int)) (d + 4) 0 0 340 [(0, .ref (g.1 + 119)), (2, .int x2), (4, .int x4), (5, .int x5), (6, .int x6), (7, .int x7)] [] h rz hz := by
  unfold f_X12_walk_b340 at E
  refine qt_iinc 5 (fun v340 => [(7, .int v340), (0, .ref (g.1 + 119)), (2, .int x2), (4, .int x4), (5, .int x5), (6, .int x6)]) dX12_walk_340 rfl ci_1 (Nat.le_of_ble_eq_true rfl) (fun _ => rfl) E (fun v340 E => ?_)
  refine qt_goto 184 dX12_walk_343 (by decide) ?_
  cases E
  exact qt_sub _ [1, 2, 3, 4, 5, 0] rfl (G)
noncomputable def f_X12_walk_b338 (x2 : Int32) (x5 : Int32) (x6 : Int32) (x7 : Int32) (s0 : Int32) (h : qa_M) : Option ((Int32 × Int32 × Int32 × Int32 × Int32 × qa_M) ⊕ ((Int32 × Int32 × Int32 × Int32 × qa_M) ⊕ ((Int32 × Int32 × Int32 × qa_M) ⊕ (Int32 × qa_M)))) :=
  qbd s0 (fun v338 : Int32 =>
  f_X12_walk_b340 x2 v338 x5 x6 x7 h)
set_option maxRecDepth 20000 in
theorem s_X12_walk_b338 {l : Launch} {g : qa_G} {d : Nat} {rz : Option Value} {hz : qa_M} (x2 : Int32) (x5 : Int32) (x6 : Int32) (x7 : Int32) (s0 : Int32) (h : qa_M) {z : ((Int32 × Int32 × Int32 × Int32 × Int32 × qa_M) ⊕ ((Int32 × Int32 × Int32 × Int32 × qa_M) ⊕ ((Int32 × Int32 × Int32 × qa_M) ⊕ (Int32 × qa_M))))} (E : f_X12_walk_b338 x2 x5 x6 x7 s0 h = some z) (G : (Sum.elim (fun (sz : Int32 × Int32 × Int32 × Int32 × Int32 × qa_M) => qt_At l g (yX12_walk, cX12_walk, 10, (some .int)) (d + 4) 0 0 184 [(0, .ref (g.1 + 119)), (2, .int sz.1), (4, .int sz.2.1), (5, .int sz.2.2.1), (6, .int sz.2.2.2.1), (7, .int sz.2.2.2.2.1)] [] sz.2.2.2.2.2 rz hz) (Sum.elim (fun (sz : Int32 × Int32 × Int32 × Int32 × qa_M) => qt_At l g (yX12_walk, cX12_walk, 10, (some .int)) (d + 4) 0 0 174 [(0, .ref (g.1 + 119)), (2, .int sz.1), (4, .int sz.2.1), (5, .int sz.2.2.1), (6, .int sz.2.2.2.1)] [] sz.2.2.2.2 rz hz) (Sum.elim (fun (sz : Int32 × Int32 × Int32 × qa_M) => qt_At l g (yX12_walk, cX12_walk, 10, (some .int)) (d + 4) 0 0 163 [(0, .ref (g.1 + 119)), (2, .int sz.1), (4, .int sz.2.1), (5, .int sz.2.2.1)] [] sz.2.2.2 rz hz) (qg_i rz hz)))) z) : qt_At l g (yX12_walk, cX12_walk, 10, (some .int)) (d + 4) 0 0 338 [(0, .ref (g.1 + 119)), (2, .int x2), (5, .int x5), (6, .int x6), (7, .int x7)] [.int s0] h rz hz := by
  unfold f_X12_walk_b338 at E
  refine qt_istore (fun v338 => [(4, .int v338), (0, .ref (g.1 + 119)), (2, .int x2), (5, .int x5), (6, .int x6), (7, .int x7)]) dX12_walk_338 (Nat.le_of_ble_eq_true rfl) (fun _ => rfl) E (fun v338 E => ?_)
  exact qt_sub _ [1, 2, 0, 3, 4, 5] rfl ((s_X12_walk_b340 x2 v338 x5 x6 x7 h E G))
noncomputable def f_X12_walk_b336 (x2 : Int32) (x4 : Int32) (x5 : Int32) (x6 : Int32) (x7 : Int32) (h : qa_M) : Option ((Int32 × Int32 × Int32 × Int32 × Int32 × qa_M) ⊕ ((Int32 × Int32 × Int32 × Int32 × qa_M) ⊕ ((Int32 × Int32 × Int32 × qa_M) ⊕ (Int32 × qa_M)))) :=
  f_X12_walk_b338 x2 x5 x6 x7 x4 h
set_option maxRecDepth 20000 in
theorem s_X12_walk_b336 {l : Launch} {g : qa_G} {d : Nat} {rz : Option Value} {hz : qa_M} (x2 : Int32) (x4 : Int32) (x5 : Int32) (x6 : Int32) (x7 : Int32) (h : qa_M) {z : ((Int32 × Int32 × Int32 × Int32 × Int32 × qa_M) ⊕ ((Int32 × Int32 × Int32 × Int32 × qa_M) ⊕ ((Int32 × Int32 × Int32 × qa_M) ⊕ (Int32 × qa_M))))} (E : f_X12_walk_b336 x2 x4 x5 x6 x7 h = some z) (G : (Sum.elim (fun (sz : Int32 × Int32 × Int32 × Int32 × Int32 × qa_M) => qt_At l g (yX12_walk, cX12_walk, 10, (some .int)) (d + 4) 0 0 184 [(0, .ref (g.1 + 119)), (2, .int sz.1), (4, .int sz.2.1), (5, .int sz.2.2.1), (6, .int sz.2.2.2.1), (7, .int sz.2.2.2.2.1)] [] sz.2.2.2.2.2 rz hz) (Sum.elim (fun (sz : Int32 × Int32 × Int32 × Int32 × qa_M) => qt_At l g (yX12_walk, cX12_walk, 10, (some .int)) (d + 4) 0 0 174 [(0, .ref (g.1 + 119)), (2, .int sz.1), (4, .int sz.2.1), (5, .int sz.2.2.1), (6, .int sz.2.2.2.1)] [] sz.2.2.2.2 rz hz) (Sum.elim (fun (sz : Int32 × Int32 × Int32 × qa_M) => qt_At l g (yX12_walk, cX12_walk, 10, (some .int)) (d + 4) 0 0 163 [(0, .ref (g.1 + 119)), (2, .int sz.1), (4, .int sz.2.1), (5, .int sz.2.2.1)] [] sz.2.2.2 rz hz) (qg_i rz hz)))) z) : qt_At l g (yX12_walk, cX12_walk, 10, (some .int)) (d + 4) 0 0 336 [(0, .ref (g.1 + 119)), (2, .int x2), (4, .int x4), (5, .int x5), (6, .int x6), (7, .int x7)] [] h rz hz := by
  unfold f_X12_walk_b336 at E
  refine qt_iload 2 dX12_walk_336 rfl ?_
  exact qt_sub _ [0, 1, 3, 4, 5] rfl ((s_X12_walk_b338 x2 x5 x6 x7 x4 h E G))
noncomputable def f_X12_walk_b317 (x2 : Int32) (x4 : Int32) (x5 : Int32) (x6 : Int32) (x7 : Int32) (x8 : Int32) (x9 : Int32) (s1 : Int32) (s2 : Int32) (h : qa_M) : Option ((Int32 × Int32 × Int32 × Int32 × Int32 × qa_M) ⊕ ((Int32 × Int32 × Int32 × Int32 × qa_M) ⊕ ((Int32 × Int32 × Int32 × qa_M) ⊕ (Int32 × qa_M)))) :=
  qck s1 2048 (
  qbd (qw_I h 164 s1.toNatClampNeg s2) (fun h317 : qa_M =>
  if x8 = x2 then (
   if x4 ≤ x9 then (
    f_X12_walk_b336 x2 x4 x5 x6 x7 h317)
   else (
    f_X12_walk_b338 x2 x5 x6 x7 x9 h317))
  else (
   f_X12_walk_b336 x2 x4 x5 x6 x7 h317)))
set_option maxRecDepth 20000 in
theorem s_X12_walk_b317 {l : Launch} {g : qa_G} {d : Nat} {rz : Option Value} {hz : qa_M} (x2 : Int32) (x4 : Int32) (x5 : Int32) (x6 : Int32) (x7 : Int32) (x8 : Int32) (x9 : Int32) (s1 : Int32) (s2 : Int32) (h : qa_M) {z : ((Int32 × Int32 × Int32 × Int32 × Int32 × qa_M) ⊕ ((Int32 × Int32 × Int32 × Int32 × qa_M) ⊕ ((Int32 × Int32 × Int32 × qa_M) ⊕ (Int32 × qa_M))))} (E : f_X12_walk_b317 x2 x4 x5 x6 x7 x8 x9 s1 s2 h = some z) (G : (Sum.elim (fun (sz : Int32 × Int32 × Int32 × Int32 × Int32 × qa_M) => qt_At l g (yX12_walk, cX12_walk, 10, (some .int)) (d + 4) 0 0 184 [(0, .ref (g.1 + 119)), (2, .int sz.1), (4, .int sz.2.1), (5, .int sz.2.2.1), (6, .int sz.2.2.2.1), (7, .int sz.2.2.2.2.1)] [] sz.2.2.2.2.2 rz hz) (Sum.elim (fun (sz : Int32 × Int32 × Int32 × Int32 × qa_M) => qt_At l g (yX12_walk, cX12_walk, 10, (some .int)) (d + 4) 0 0 174 [(0, .ref (g.1 + 119)), (2, .int sz.1), (4, .int sz.2.1), (5, .int sz.2.2.1), (6, .int sz.2.2.2.1)] [] sz.2.2.2.2 rz hz) (Sum.elim (fun (sz : Int32 × Int32 × Int32 × qa_M) => qt_At l g (yX12_walk, cX12_walk, 10, (some .int)) (d + 4) 0 0 163 [(0, .ref (g.1 + 119)), (2, .int sz.1), (4, .int sz.2.1), (5, .int sz.2.2.1)] [] sz.2.2.2 rz hz) (qg_i rz hz)))) z) : qt_At l g (yX12_walk, cX12_walk, 10, (some .int)) (d + 4) 0 0 317 [(0, .ref (g.1 + 119)), (2, .int x2), (4, .int x4), (5, .int x5), (6, .int x6), (7, .int x7), (8, .int x8), (9, .int x9)] [.int s2, .int s1, .ref (g.1 + 164)] h rz hz := by
  unfold f_X12_walk_b317 at E
  refine qt_iast (wl_164 h) dX12_walk_317 E (fun h317 E => ?_)
  refine qt_iload 6 dX12_walk_318 rfl ?_
  refine qt_iload_n 1 dX12_walk_320 rfl rfl ?_
  refine qt_icmp_ne 336 dX12_walk_321 (by decide) E (fun E => ?_) (fun E => ?_)
  · exact qt_sub _ [0, 1, 2, 3, 4, 5] rfl ((s_X12_walk_b336 x2 x4 x5 x6 x7 h317 E G))
  · refine qt_iload 7 dX12_walk_324 rfl ?_
    refine qt_iload 2 dX12_walk_326 rfl ?_
    refine qt_icmp_ge 336 dX12_walk_328 (by decide) E (fun E => ?_) (fun E => ?_)
    · exact qt_sub _ [0, 1, 2, 3, 4, 5] rfl ((s_X12_walk_b336 x2 x4 x5 x6 x7 h317 E G))
    · refine qt_iload 7 dX12_walk_331 rfl ?_
      refine qt_goto 338 dX12_walk_333 (by decide) ?_
      exact qt_sub _ [0, 1, 3, 4, 5] rfl ((s_X12_walk_b338 x2 x5 x6 x7 x9 h317 E G))
noncomputable def f_X12_walk_b184 (x2 : Int32) (x4 : Int32) (x5 : Int32) (x6 : Int32) (x7 : Int32) (h : qa_M) : Option ((Int32 × Int32 × Int32 × Int32 × Int32 × qa_M) ⊕ ((Int32 × Int32 × Int32 × Int32 × qa_M) ⊕ ((Int32 × Int32 × Int32 × qa_M) ⊕ (Int32 × qa_M)))) :=
  if (8 : Int32) ≤ x7 then (
   qup (f_X12_walk_b346 x2 x4 x5 x6 h))
  else (
   qck (((8 : Int32) * x5) + x6) 2048 (
   if (99999 : Int32) ≤ (h.1 164 (((8 : Int32) * x5) + x6).toNatClampNeg) then (
    qup (f_X12_walk_b346 x2 x4 x5 x6 h))
   else (
    qbd (x5 ||| ((1 : Int32) <<< (x7 &&& 31))) (fun v217 : Int32 =>
    qbn (m_X12_has x2.toInt64 x7 h) (fun (c223 : Int32) (h223 : qa_M) =>
    if c223 = 0 then (
     f_X12_walk_b340 x2 x4 x5 x6 x7 h223)
    else (
     qbn (m_X12_has x5.toInt64 x7 h223) (fun (c234 : Int32) (h234 : qa_M) =>
     if c234 = 0 then (
      qck (((8 : Int32) * x5) + x6) 2048 (
      qck (((8 : Int32) * x6) + x7) 64 (
      qbd ((h234.1 164 (((8 : Int32) * x5) + x6).toNatClampNeg) + (h234.1 163 (((8 : Int32) * x6) + x7).toNatClampNeg)) (fun v267 : Int32 =>
      qck (((8 : Int32) * v217) + x7) 2048 (
      if (h234.1 164 (((8 : Int32) * v217) + x7).toNatClampNeg) ≤ v267 then (
       qck (((8 : Int32) * v217) + x7) 2048 (
       f_X12_walk_b317 x2 x4 x5 x6 x7 v217 v267 (((8 : Int32) * v217) + x7) (h234.1 164 (((8 : Int32) * v217) + x7).toNatClampNeg) h234))
      else (
       f_X12_walk_b317 x2 x4 x5 x6 x7 v217 v267 (((8 : Int32) * v217) + x7) v267 h234))))))
     else (
      f_X12_walk_b340 x2 x4 x5 x6 x7 h234))))))))
set_option maxRecDepth 20000 in
theorem s_X12_walk_b184 {l : Launch} {g : qa_G} {d : Nat} {rz : Option Value} {hz : qa_M} (x2 : Int32) (x4 : Int32) (x5 : Int32) (x6 : Int32) (x7 : Int32) (h : qa_M) {z : ((Int32 × Int32 × Int32 × Int32 × Int32 × qa_M) ⊕ ((Int32 × Int32 × Int32 × Int32 × qa_M) ⊕ ((Int32 × Int32 × Int32 × qa_M) ⊕ (Int32 × qa_M))))} (E : f_X12_walk_b184 x2 x4 x5 x6 x7 h = some z) (G : (Sum.elim (fun (sz : Int32 × Int32 × Int32 × Int32 × Int32 × qa_M) => qt_At l g (yX12_walk, cX12_walk, 10, (some .int)) (d + 4) 0 0 184 [(0, .ref (g.1 + 119)), (2, .int sz.1), (4, .int sz.2.1), (5, .int sz.2.2.1), (6, .int sz.2.2.2.1), (7, .int sz.2.2.2.2.1)] [] sz.2.2.2.2.2 rz hz) (Sum.elim (fun (sz : Int32 × Int32 × Int32 × Int32 × qa_M) => qt_At l g (yX12_walk, cX12_walk, 10, (some .int)) (d + 4) 0 0 174 [(0, .ref (g.1 + 119)), (2, .int sz.1), (4, .int sz.2.1), (5, .int sz.2.2.1), (6, .int sz.2.2.2.1)] [] sz.2.2.2.2 rz hz) (Sum.elim (fun (sz : Int32 × Int32 × Int32 × qa_M) => qt_At l g (yX12_walk, cX12_walk, 10, (some .int)) (d + 4) 0 0 163 [(0, .ref (g.1 + 119)), (2, .int sz.1), (4, .int sz.2.1), (5, .int sz.2.2.1)] [] sz.2.2.2 rz hz) (qg_i rz hz)))) z) : qt_At l g (yX12_walk, cX12_walk, 10, (some .int)) (d + 4) 0 0 184 [(0, .ref (g.1 + 119)), (2, .int x2), (4, .int x4), (5, .int x5), (6, .int x6), (7, .int x7)] [] h rz hz := by
  unfold f_X12_walk_b184 at E
  refine qt_iload 5 dX12_walk_184 rfl ?_
  refine qt_bipush dX12_walk_186 cb_8 ?_
  refine qt_icmp_ge 346 dX12_walk_188 (by decide) E (fun E => ?_) (fun E => ?_)
  · obtain ⟨z0_, E, G⟩ := qup_g E G
    exact qt_sub _ [0, 1, 2, 3, 4] rfl ((s_X12_walk_b346 x2 x4 x5 x6 h E G))
  · refine qt_aload_n 0 dX12_walk_191 rfl rfl ?_
    refine qt_getS 164 (wl_119 h) fe_RX12_148 rfl dX12_walk_192 ?_
    refine qt_bipush dX12_walk_195 cb_8 ?_
    refine qt_iload 3 dX12_walk_197 rfl ?_
    refine qt_imul dX12_walk_199 ?_
    refine qt_iload 4 dX12_walk_200 rfl ?_
    refine qt_iadd dX12_walk_202 ?_
    refine qt_iald (wl_164 h) dX12_walk_203 E (fun E => ?_)
    refine qt_ldcw tb_1639 dX12_walk_204 ?_
    refine qt_icmp_ge 346 dX12_walk_207 (by decide) E (fun E => ?_) (fun E => ?_)
    · obtain ⟨z0_, E, G⟩ := qup_g E G
      exact qt_sub _ [0, 1, 2, 3, 4] rfl ((s_X12_walk_b346 x2 x4 x5 x6 h E G))
    · refine qt_iload 3 dX12_walk_210 rfl ?_
      refine qt_iconst dX12_walk_212 ci_1 ?_
      refine qt_iload 5 dX12_walk_213 rfl ?_
      refine qt_ishl dX12_walk_215 ?_
      refine qt_ior dX12_walk_216 ?_
      refine qt_istore (fun v217 => [(8, .int v217), (0, .ref (g.1 + 119)), (2, .int x2), (4, .int x4), (5, .int x5), (6, .int x6), (7, .int x7)]) dX12_walk_217 (Nat.le_of_ble_eq_true rfl) (fun _ => rfl) E (fun v217 E => ?_)
      refine qt_iload_n 2 dX12_walk_219 rfl rfl ?_
      refine qt_i2l dX12_walk_220 ?_
      refine qt_iload 6 dX12_walk_221 rfl ?_
      obtain ⟨c223, h223, e223, E⟩ := qbn_el E
      refine qt_callSi (b2 := 0) [.long x2.toInt64, .int x7] (c_X12_has x2.toInt64 x7 h e223) cv_RX12_211 rfl (Nat.le_of_ble_eq_true rfl) (Nat.le_of_ble_eq_true rfl) dX12_walk_223 ?_
      refine qt_if_eq 340 dX12_walk_226 (by decide) E (fun E => ?_) (fun E => ?_)
      · exact qt_sub _ [1, 2, 3, 4, 5, 6] rfl ((s_X12_walk_b340 x2 x4 x5 x6 x7 h223 E G))
      · refine qt_iload 4 dX12_walk_229 rfl ?_
        refine qt_i2l dX12_walk_231 ?_
        refine qt_iload 6 dX12_walk_232 rfl ?_
        obtain ⟨c234, h234, e234, E⟩ := qbn_el E
        refine qt_callSi (b2 := 0) [.long x5.toInt64, .int x7] (c_X12_has x5.toInt64 x7 h223 e234) cv_RX12_211 rfl (Nat.le_of_ble_eq_true rfl) (Nat.le_of_ble_eq_true rfl) dX12_walk_234 ?_
        refine qt_if_ne 340 dX12_walk_237 (by decide) E (fun E => ?_) (fun E => ?_)
        · exact qt_sub _ [1, 2, 3, 4, 5, 6] rfl ((s_X12_walk_b340 x2 x4 x5 x6 x7 h234 E G))
        · refine qt_aload_n 1 dX12_walk_240 rfl rfl ?_
          refine qt_getS 164 (wl_119 h234) fe_RX12_148 rfl dX12_walk_241 ?_
          refine qt_bipush dX12_walk_244 cb_8 ?_
          refine qt_iload 4 dX12_walk_246 rfl ?_
          refine qt_imul dX12_walk_248 ?_
          refine qt_iload 5 dX12_walk_249 rfl ?_
          refine qt_iadd dX12_walk_251 ?_
          refine qt_iald (wl_164 h234) dX12_walk_252 E (fun E => ?_)
          refine qt_aload_n 1 dX12_walk_253 rfl rfl ?_
          refine qt_getS 163 (wl_119 h234) fe_RX12_145 rfl dX12_walk_254 ?_
          refine qt_bipush dX12_walk_257 cb_8 ?_
          refine qt_iload 5 dX12_walk_259 rfl ?_
          refine qt_imul dX12_walk_261 ?_
          refine qt_iload 6 dX12_walk_262 rfl ?_
          refine qt_iadd dX12_walk_264 ?_
          refine qt_iald (wl_163 h234) dX12_walk_265 E (fun E => ?_)
          refine qt_iadd dX12_walk_266 ?_
          refine qt_istore (fun v267 => [(9, .int v267), (8, .int v217), (0, .ref (g.1 + 119)), (2, .int x2), (4, .int x4), (5, .int x5), (6, .int x6), (7, .int x7)]) dX12_walk_267 (Nat.le_of_ble_eq_true rfl) (fun _ => rfl) E (fun v267 E => ?_)
          refine qt_aload_n 2 dX12_walk_269 rfl rfl ?_
          refine qt_getS 164 (wl_119 h234) fe_RX12_148 rfl dX12_walk_270 ?_
          refine qt_bipush dX12_walk_273 cb_8 ?_
          refine qt_iload 1 dX12_walk_275 rfl ?_
          refine qt_imul dX12_walk_277 ?_
          refine qt_iload 7 dX12_walk_278 rfl ?_
          refine qt_iadd dX12_walk_280 ?_
          refine qt_iload 0 dX12_walk_281 rfl ?_
          refine qt_aload_n 2 dX12_walk_283 rfl rfl ?_
          refine qt_getS 164 (wl_119 h234) fe_RX12_148 rfl dX12_walk_284 ?_
          refine qt_bipush dX12_walk_287 cb_8 ?_
          refine qt_iload 1 dX12_walk_289 rfl ?_
          refine qt_imul dX12_walk_291 ?_
          refine qt_iload 7 dX12_walk_292 rfl ?_
          refine qt_iadd dX12_walk_294 ?_
          refine qt_iald (wl_164 h234) dX12_walk_295 E (fun E => ?_)
          refine qt_icmp_ge 304 dX12_walk_296 (by decide) E (fun E => ?_) (fun E => ?_)
          · refine qt_aload_n 2 dX12_walk_304 rfl rfl ?_
            refine qt_getS 164 (wl_119 h234) fe_RX12_148 rfl dX12_walk_305 ?_
            refine qt_bipush dX12_walk_308 cb_8 ?_
            refine qt_iload 1 dX12_walk_310 rfl ?_
            refine qt_imul dX12_walk_312 ?_
            refine qt_iload 7 dX12_walk_313 rfl ?_
            refine qt_iadd dX12_walk_315 ?_
            refine qt_iald (wl_164 h234) dX12_walk_316 E (fun E => ?_)
            exact qt_sub _ [2, 3, 4, 5, 6, 7, 1, 0] rfl ((s_X12_walk_b317 x2 x4 x5 x6 x7 v217 v267 (((8 : Int32) * v217) + x7) (h234.1 164 (((8 : Int32) * v217) + x7).toNatClampNeg) h234 E G))
          · refine qt_iload 0 dX12_walk_299 rfl ?_
            refine qt_goto 317 dX12_walk_301 (by decide) ?_
            exact qt_sub _ [2, 3, 4, 5, 6, 7, 1, 0] rfl ((s_X12_walk_b317 x2 x4 x5 x6 x7 v217 v267 (((8 : Int32) * v217) + x7) v267 h234 E G))
noncomputable def f_X12_walk_b184_loop (x2 : Int32) (x4 : Int32) (x5 : Int32) (x6 : Int32) (x7 : Int32) (h : qa_M) : Option ((Int32 × Int32 × Int32 × Int32 × qa_M) ⊕ ((Int32 × Int32 × Int32 × qa_M) ⊕ (Int32 × qa_M))) := qlp (fun sz : Int32 × Int32 × Int32 × Int32 × Int32 × qa_M => f_X12_walk_b184 sz.1 sz.2.1 sz.2.2.1 sz.2.2.2.1 sz.2.2.2.2.1 sz.2.2.2.2.2) (x2, x4, x5, x6, x7, h)
theorem s_X12_walk_b184_loop {l : Launch} {g : qa_G} {d : Nat} {rz : Option Value} {hz : qa_M} (x2 : Int32) (x4 : Int32) (x5 : Int32) (x6 : Int32) (x7 : Int32) (h : qa_M) {z : ((Int32 × Int32 × Int32 × Int32 × qa_M) ⊕ ((Int32 × Int32 × Int32 × qa_M) ⊕ (Int32 × qa_M)))} (E : f_X12_walk_b184_loop x2 x4 x5 x6 x7 h = some z) (G : (Sum.elim (fun (sz : Int32 × Int32 × Int32 × Int32 × qa_M) => qt_At l g (yX12_walk, cX12_walk, 10, (some .int)) (d + 4) 0 0 174 [(0, .ref (g.1 + 119)), (2, .int sz.1), (4, .int sz.2.1), (5, .int sz.2.2.1), (6, .int sz.2.2.2.1)] [] sz.2.2.2.2 rz hz) (Sum.elim (fun (sz : Int32 × Int32 × Int32 × qa_M) => qt_At l g (yX12_walk, cX12_walk, 10, (some .int)) (d + 4) 0 0 163 [(0, .ref (g.1 + 119)), (2, .int sz.1), (4, .int sz.2.1), (5, .int sz.2.2.1)] [] sz.2.2.2 rz hz) (qg_i rz hz))) z) : qt_At l g (yX12_walk, cX12_walk, 10, (some .int)) (d + 4) 0 0 184 [(0, .ref (g.1 + 119)), (2, .int x2), (4, .int x4), (5, .int x5), (6, .int x6), (7, .int x7)] [] h rz hz :=
  qlp_ind (fun sz : Int32 × Int32 × Int32 × Int32 × Int32 × qa_M => qt_At l g (yX12_walk, cX12_walk, 10, (some .int)) (d + 4) 0 0 184 [(0, .ref (g.1 + 119)), (2, .int sz.1), (4, .int sz.2.1), (5, .int sz.2.2.1), (6, .int sz.2.2.2.1), (7, .int sz.2.2.2.2.1)] [] sz.2.2.2.2.2 rz hz) (fun sz E => s_X12_walk_b184 sz.1 sz.2.1 sz.2.2.1 sz.2.2.2.1 sz.2.2.2.2.1 sz.2.2.2.2.2 E G) (fun sz sz2 E ih => s_X12_walk_b184 sz.1 sz.2.1 sz.2.2.1 sz.2.2.2.1 sz.2.2.2.2.1 sz.2.2.2.2.2 E ih) (x2, x4, x5, x6, x7, h) E
noncomputable def f_X12_walk_b174 (x2 : Int32) (x4 : Int32) (x5 : Int32) (x6 : Int32) (h : qa_M) : Option ((Int32 × Int32 × Int32 × Int32 × qa_M) ⊕ ((Int32 × Int32 × Int32 × qa_M) ⊕ (Int32 × qa_M))) :=
  if (8 : Int32) ≤ x6 then (
   qup (f_X12_walk_b352 x2 x4 x5 h))
  else (
   qbd (0 : Int32) (fun v182 : Int32 =>
   f_X12_walk_b184_loop x2 x4 x5 x6 v182 h))
set_option maxRecDepth 20000 in
theorem s_X12_walk_b174 {l : Launch} {g : qa_G} {d : Nat} {rz : Option Value} {hz : qa_M} (x2 : Int32) (x4 : Int32) (x5 : Int32) (x6 : Int32) (h : qa_M) {z : ((Int32 × Int32 × Int32 × Int32 × qa_M) ⊕ ((Int32 × Int32 × Int32 × qa_M) ⊕ (Int32 × qa_M)))} (E : f_X12_walk_b174 x2 x4 x5 x6 h = some z) (G : (Sum.elim (fun (sz : Int32 × Int32 × Int32 × Int32 × qa_M) => qt_At l g (yX12_walk, cX12_walk, 10, (some .int)) (d + 4) 0 0 174 [(0, .ref (g.1 + 119)), (2, .int sz.1), (4, .int sz.2.1), (5, .int sz.2.2.1), (6, .int sz.2.2.2.1)] [] sz.2.2.2.2 rz hz) (Sum.elim (fun (sz : Int32 × Int32 × Int32 × qa_M) => qt_At l g (yX12_walk, cX12_walk, 10, (some .int)) (d + 4) 0 0 163 [(0, .ref (g.1 + 119)), (2, .int sz.1), (4, .int sz.2.1), (5, .int sz.2.2.1)] [] sz.2.2.2 rz hz) (qg_i rz hz))) z) : qt_At l g (yX12_walk, cX12_walk, 10, (some .int)) (d + 4) 0 0 174 [(0, .ref (g.1 + 119)), (2, .int x2), (4, .int x4), (5, .int x5), (6, .int x6)] [] h rz hz := by
  unfold f_X12_walk_b174 at E
  refine qt_iload 4 dX12_walk_174 rfl ?_
  refine qt_bipush dX12_walk_176 cb_8 ?_
  refine qt_icmp_ge 352 dX12_walk_178 (by decide) E (fun E => ?_) (fun E => ?_)
  · obtain ⟨z0_, E, G⟩ := qup_g E G
    exact qt_sub _ [0, 1, 2, 3] rfl ((s_X12_walk_b352 x2 x4 x5 h E G))
  · refine qt_iconst dX12_walk_181 ci_0 ?_
    refine qt_istore (fun v182 => [(7, .int v182), (0, .ref (g.1 + 119)), (2, .int x2), (4, .int x4), (5, .int x5), (6, .int x6)]) dX12_walk_182 (Nat.le_of_ble_eq_true rfl) (fun _ => rfl) E (fun v182 E => ?_)
    exact qt_sub _ [1, 2, 3, 4, 5, 0] rfl ((s_X12_walk_b184_loop x2 x4 x5 x6 v182 h E G))
noncomputable def f_X12_walk_b174_loop (x2 : Int32) (x4 : Int32) (x5 : Int32) (x6 : Int32) (h : qa_M) : Option ((Int32 × Int32 × Int32 × qa_M) ⊕ (Int32 × qa_M)) := qlp (fun sz : Int32 × Int32 × Int32 × Int32 × qa_M => f_X12_walk_b174 sz.1 sz.2.1 sz.2.2.1 sz.2.2.2.1 sz.2.2.2.2) (x2, x4, x5, x6, h)
theorem s_X12_walk_b174_loop {l : Launch} {g : qa_G} {d : Nat} {rz : Option Value} {hz : qa_M} (x2 : Int32) (x4 : Int32) (x5 : Int32) (x6 : Int32) (h : qa_M) {z : ((Int32 × Int32 × Int32 × qa_M) ⊕ (Int32 × qa_M))} (E : f_X12_walk_b174_loop x2 x4 x5 x6 h = some z) (G : (Sum.elim (fun (sz : Int32 × Int32 × Int32 × qa_M) => qt_At l g (yX12_walk, cX12_walk, 10, (some .int)) (d + 4) 0 0 163 [(0, .ref (g.1 + 119)), (2, .int sz.1), (4, .int sz.2.1), (5, .int sz.2.2.1)] [] sz.2.2.2 rz hz) (qg_i rz hz)) z) : qt_At l g (yX12_walk, cX12_walk, 10, (some .int)) (d + 4) 0 0 174 [(0, .ref (g.1 + 119)), (2, .int x2), (4, .int x4), (5, .int x5), (6, .int x6)] [] h rz hz :=
  qlp_ind (fun sz : Int32 × Int32 × Int32 × Int32 × qa_M => qt_At l g (yX12_walk, cX12_walk, 10, (some .int)) (d + 4) 0 0 174 [(0, .ref (g.1 + 119)), (2, .int sz.1), (4, .int sz.2.1), (5, .int sz.2.2.1), (6, .int sz.2.2.2.1)] [] sz.2.2.2.2 rz hz) (fun sz E => s_X12_walk_b174 sz.1 sz.2.1 sz.2.2.1 sz.2.2.2.1 sz.2.2.2.2 E G) (fun sz sz2 E ih => s_X12_walk_b174 sz.1 sz.2.1 sz.2.2.1 sz.2.2.2.1 sz.2.2.2.2 E ih) (x2, x4, x5, x6, h) E
noncomputable def f_X12_walk_b163 (x2 : Int32) (x4 : Int32) (x5 : Int32) (h : qa_M) : Option ((Int32 × Int32 × Int32 × qa_M) ⊕ (Int32 × qa_M)) :=
  if (256 : Int32) ≤ x5 then (
   qup (f_X12_walk_b358 x4 h))
  else (
   qbd (0 : Int32) (fun v172 : Int32 =>
   f_X12_walk_b174_loop x2 x4 x5 v172 h))
set_option maxRecDepth 20000 in
theorem s_X12_walk_b163 {l : Launch} {g : qa_G} {d : Nat} {rz : Option Value} {hz : qa_M} (x2 : Int32) (x4 : Int32) (x5 : Int32) (h : qa_M) {z : ((Int32 × Int32 × Int32 × qa_M) ⊕ (Int32 × qa_M))} (E : f_X12_walk_b163 x2 x4 x5 h = some z) (G : (Sum.elim (fun (sz : Int32 × Int32 × Int32 × qa_M) => qt_At l g (yX12_walk, cX12_walk, 10, (some .int)) (d + 4) 0 0 163 [(0, .ref (g.1 + 119)), (2, .int sz.1), (4, .int sz.2.1), (5, .int sz.2.2.1)] [] sz.2.2.2 rz hz) (qg_i rz hz)) z) : qt_At l g (yX12_walk, cX12_walk, 10, (some .int)) (d + 4) 0 0 163 [(0, .ref (g.1 + 119)), (2, .int x2), (4, .int x4), (5, .int x5)] [] h rz hz := by
  unfold f_X12_walk_b163 at E
  refine qt_iload 3 dX12_walk_163 rfl ?_
  refine qt_sipush dX12_walk_165 cs_256 ?_
  refine qt_icmp_ge 358 dX12_walk_168 (by decide) E (fun E => ?_) (fun E => ?_)
  · obtain ⟨z0_, E, G⟩ := qup_g E G
    exact qt_sub _ [2] rfl ((s_X12_walk_b358 x4 h E G))
  · refine qt_iconst dX12_walk_171 ci_0 ?_
    refine qt_istore (fun v172 => [(6, .int v172), (0, .ref (g.1 + 119)), (2, .int x2), (4, .int x4), (5, .int x5)]) dX12_walk_172 (Nat.le_of_ble_eq_true rfl) (fun _ => rfl) E (fun v172 E => ?_)
    exact qt_sub _ [1, 2, 3, 4, 0] rfl ((s_X12_walk_b174_loop x2 x4 x5 v172 h E G))
noncomputable def f_X12_walk_b163_loop (x2 : Int32) (x4 : Int32) (x5 : Int32) (h : qa_M) : Option (Int32 × qa_M) := qlp (fun sz : Int32 × Int32 × Int32 × qa_M => f_X12_walk_b163 sz.1 sz.2.1 sz.2.2.1 sz.2.2.2) (x2, x4, x5, h)
theorem s_X12_walk_b163_loop {l : Launch} {g : qa_G} {d : Nat} {rz : Option Value} {hz : qa_M} (x2 : Int32) (x4 : Int32) (x5 : Int32) (h : qa_M) {z : (Int32 × qa_M)} (E : f_X12_walk_b163_loop x2 x4 x5 h = some z) (G : (qg_i rz hz) z) : qt_At l g (yX12_walk, cX12_walk, 10, (some .int)) (d + 4) 0 0 163 [(0, .ref (g.1 + 119)), (2, .int x2), (4, .int x4), (5, .int x5)] [] h rz hz :=
  qlp_ind (fun sz : Int32 × Int32 × Int32 × qa_M => qt_At l g (yX12_walk, cX12_walk, 10, (some .int)) (d + 4) 0 0 163 [(0, .ref (g.1 + 119)), (2, .int sz.1), (4, .int sz.2.1), (5, .int sz.2.2.1)] [] sz.2.2.2 rz hz) (fun sz E => s_X12_walk_b163 sz.1 sz.2.1 sz.2.2.1 sz.2.2.2 E G) (fun sz sz2 E ih => s_X12_walk_b163 sz.1 sz.2.1 sz.2.2.1 sz.2.2.2 E ih) (x2, x4, x5, h) E
noncomputable def f_X12_walk_b158 (x2 : Int32) (s0 : Int32) (h : qa_M) : Option (Int32 × qa_M) :=
  qbd s0 (fun v158 : Int32 =>
  qbd (0 : Int32) (fun v161 : Int32 =>
  f_X12_walk_b163_loop x2 v158 v161 h))
set_option maxRecDepth 20000 in
theorem s_X12_walk_b158 {l : Launch} {g : qa_G} {d : Nat} {rz : Option Value} {hz : qa_M} (x2 : Int32) (s0 : Int32) (h : qa_M) {z : (Int32 × qa_M)} (E : f_X12_walk_b158 x2 s0 h = some z) (G : (qg_i rz hz) z) : qt_At l g (yX12_walk, cX12_walk, 10, (some .int)) (d + 4) 0 0 158 [(0, .ref (g.1 + 119)), (2, .int x2)] [.int s0] h rz hz := by
  unfold f_X12_walk_b158 at E
  refine qt_istore (fun v158 => [(4, .int v158), (0, .ref (g.1 + 119)), (2, .int x2)]) dX12_walk_158 (Nat.le_of_ble_eq_true rfl) (fun _ => rfl) E (fun v158 E => ?_)
  refine qt_iconst dX12_walk_160 ci_0 ?_
  refine qt_istore (fun v161 => [(5, .int v161), (4, .int v158), (0, .ref (g.1 + 119)), (2, .int x2)]) dX12_walk_161 (Nat.le_of_ble_eq_true rfl) (fun _ => rfl) E (fun v161 E => ?_)
  exact qt_sub _ [2, 3, 1, 0] rfl ((s_X12_walk_b163_loop x2 v158 v161 h E G))
noncomputable def f_X12_walk_b128 (x1 : Int32) (x2 : Int32) (h : qa_M) : Option (Int32 × qa_M) :=
  qbd (((1 : Int32) <<< (x1 &&& 31)) &&& x2) (fun v133 : Int32 =>
  qck (((8 : Int32) * v133) + x1) 2048 (
  qbd (qw_I h 164 (((8 : Int32) * v133) + x1).toNatClampNeg (0 : Int32)) (fun h145 : qa_M =>
  if v133 = x2 then (
   f_X12_walk_b158 x2 (0 : Int32) h145)
  else (
   f_X12_walk_b158 x2 (99999 : Int32) h145))))
set_option maxRecDepth 20000 in
theorem s_X12_walk_b128 {l : Launch} {g : qa_G} {d : Nat} {rz : Option Value} {hz : qa_M} (x1 : Int32) (x2 : Int32) (h : qa_M) {z : (Int32 × qa_M)} (E : f_X12_walk_b128 x1 x2 h = some z) (G : (qg_i rz hz) z) : qt_At l g (yX12_walk, cX12_walk, 10, (some .int)) (d + 4) 0 0 128 [(0, .ref (g.1 + 119)), (1, .int x1), (2, .int x2)] [] h rz hz := by
  unfold f_X12_walk_b128 at E
  refine qt_iconst dX12_walk_128 ci_1 ?_
  refine qt_iload_n 1 dX12_walk_129 rfl rfl ?_
  refine qt_ishl dX12_walk_130 ?_
  refine qt_iload_n 2 dX12_walk_131 rfl rfl ?_
  refine qt_iand dX12_walk_132 ?_
  refine qt_istore_n (fun v133 => [(3, .int v133), (0, .ref (g.1 + 119)), (1, .int x1), (2, .int x2)]) dX12_walk_133 rfl (Nat.le_of_ble_eq_true rfl) (fun _ => rfl) E (fun v133 E => ?_)
  refine qt_aload_n 1 dX12_walk_134 rfl rfl ?_
  refine qt_getS 164 (wl_119 h) fe_RX12_148 rfl dX12_walk_135 ?_
  refine qt_bipush dX12_walk_138 cb_8 ?_
  refine qt_iload_n 0 dX12_walk_140 rfl rfl ?_
  refine qt_imul dX12_walk_141 ?_
  refine qt_iload_n 2 dX12_walk_142 rfl rfl ?_
  refine qt_iadd dX12_walk_143 ?_
  refine qt_iconst dX12_walk_144 ci_0 ?_
  refine qt_iast (wl_164 h) dX12_walk_145 E (fun h145 E => ?_)
  refine qt_iload_n 0 dX12_walk_146 rfl rfl ?_
  refine qt_iload_n 3 dX12_walk_147 rfl rfl ?_
  refine qt_icmp_ne 155 dX12_walk_148 (by decide) E (fun E => ?_) (fun E => ?_)
  · refine qt_ldcw tb_1639 dX12_walk_155 ?_
    exact qt_sub _ [1, 3] rfl ((s_X12_walk_b158 x2 (99999 : Int32) h145 E G))
  · refine qt_iconst dX12_walk_151 ci_0 ?_
    refine qt_goto 158 dX12_walk_152 (by decide) ?_
    exact qt_sub _ [1, 3] rfl ((s_X12_walk_b158 x2 (0 : Int32) h145 E G))
noncomputable def f_X12_walk_b104 (x1 : Int32) (x2 : Int32) (x3 : Int32) (h : qa_M) : Option ((Int32 × Int32 × Int32 × qa_M) ⊕ (Int32 × qa_M)) :=
  if (2048 : Int32) ≤ x3 then (
   qup (f_X12_walk_b128 x1 x2 h))
  else (
   qck x3 2048 (
   qbd (qw_I h 164 x3.toNatClampNeg (99999 : Int32)) (fun h121 : qa_M =>
   qbd (x3 + (1 : Int32)) (fun v122 : Int32 =>
   some (.inl (x1, x2, v122, h121))))))
set_option maxRecDepth 20000 in
theorem s_X12_walk_b104 {l : Launch} {g : qa_G} {d : Nat} {rz : Option Value} {hz : qa_M} (x1 : Int32) (x2 : Int32) (x3 : Int32) (h : qa_M) {z : ((Int32 × Int32 × Int32 × qa_M) ⊕ (Int32 × qa_M))} (E : f_X12_walk_b104 x1 x2 x3 h = some z) (G : (Sum.elim (fun (sz : Int32 × Int32 × Int32 × qa_M) => qt_At l g (yX12_walk, cX12_walk, 10, (some .int)) (d + 4) 0 0 104 [(0, .ref (g.1 + 119)), (1, .int sz.1), (2, .int sz.2.1), (3, .int sz.2.2.1)] [] sz.2.2.2 rz hz) (qg_i rz hz)) z) : qt_At l g (yX12_walk, cX12_walk, 10, (some .int)) (d + 4) 0 0 104 [(0, .ref (g.1 + 119)), (1, .int x1), (2, .int x2), (3, .int x3)] [] h rz hz := by
  unfold f_X12_walk_b104 at E
  refine qt_iload_n 3 dX12_walk_104 rfl rfl ?_
  refine qt_aload_n 0 dX12_walk_105 rfl rfl ?_
  refine qt_getS 164 (wl_119 h) fe_RX12_148 rfl dX12_walk_106 ?_
  refine qt_alen (v := (2048 : Int32)) (by decide) (wl_164 h) cn_2048 dX12_walk_109 ?_
  refine qt_icmp_ge 128 dX12_walk_110 (by decide) E (fun E => ?_) (fun E => ?_)
  · obtain ⟨z0_, E, G⟩ := qup_g E G
    exact qt_sub _ [0, 1, 2] rfl ((s_X12_walk_b128 x1 x2 h E G))
  · refine qt_aload_n 0 dX12_walk_113 rfl rfl ?_
    refine qt_getS 164 (wl_119 h) fe_RX12_148 rfl dX12_walk_114 ?_
    refine qt_iload_n 3 dX12_walk_117 rfl rfl ?_
    refine qt_ldcw tb_1639 dX12_walk_118 ?_
    refine qt_iast (wl_164 h) dX12_walk_121 E (fun h121 E => ?_)
    refine qt_iinc 3 (fun v122 => [(3, .int v122), (0, .ref (g.1 + 119)), (1, .int x1), (2, .int x2)]) dX12_walk_122 rfl ci_1 (Nat.le_of_ble_eq_true rfl) (fun _ => rfl) E (fun v122 E => ?_)
    refine qt_goto 104 dX12_walk_125 (by decide) ?_
    cases E
    exact qt_sub _ [1, 2, 3, 0] rfl (G)
noncomputable def f_X12_walk_b104_loop (x1 : Int32) (x2 : Int32) (x3 : Int32) (h : qa_M) : Option (Int32 × qa_M) := qlp (fun sz : Int32 × Int32 × Int32 × qa_M => f_X12_walk_b104 sz.1 sz.2.1 sz.2.2.1 sz.2.2.2) (x1, x2, x3, h)
theorem s_X12_walk_b104_loop {l : Launch} {g : qa_G} {d : Nat} {rz : Option Value} {hz : qa_M} (x1 : Int32) (x2 : Int32) (x3 : Int32) (h : qa_M) {z : (Int32 × qa_M)} (E : f_X12_walk_b104_loop x1 x2 x3 h = some z) (G : (qg_i rz hz) z) : qt_At l g (yX12_walk, cX12_walk, 10, (some .int)) (d + 4) 0 0 104 [(0, .ref (g.1 + 119)), (1, .int x1), (2, .int x2), (3, .int x3)] [] h rz hz :=
  qlp_ind (fun sz : Int32 × Int32 × Int32 × qa_M => qt_At l g (yX12_walk, cX12_walk, 10, (some .int)) (d + 4) 0 0 104 [(0, .ref (g.1 + 119)), (1, .int sz.1), (2, .int sz.2.1), (3, .int sz.2.2.1)] [] sz.2.2.2 rz hz) (fun sz E => s_X12_walk_b104 sz.1 sz.2.1 sz.2.2.1 sz.2.2.2 E G) (fun sz sz2 E ih => s_X12_walk_b104 sz.1 sz.2.1 sz.2.2.1 sz.2.2.2 E ih) (x1, x2, x3, h) E
noncomputable def f_X12_walk_b102 (x1 : Int32) (x2 : Int32) (h : qa_M) : Option (Int32 × qa_M) :=
  qbd (0 : Int32) (fun v103 : Int32 =>
  f_X12_walk_b104_loop x1 x2 v103 h)
set_option maxRecDepth 20000 in
theorem s_X12_walk_b102 {l : Launch} {g : qa_G} {d : Nat} {rz : Option Value} {hz : qa_M} (x1 : Int32) (x2 : Int32) (h : qa_M) {z : (Int32 × qa_M)} (E : f_X12_walk_b102 x1 x2 h = some z) (G : (qg_i rz hz) z) : qt_At l g (yX12_walk, cX12_walk, 10, (some .int)) (d + 4) 0 0 102 [(0, .ref (g.1 + 119)), (1, .int x1), (2, .int x2)] [] h rz hz := by
  unfold f_X12_walk_b102 at E
  refine qt_iconst dX12_walk_102 ci_0 ?_
  refine qt_istore_n (fun v103 => [(3, .int v103), (0, .ref (g.1 + 119)), (1, .int x1), (2, .int x2)]) dX12_walk_103 rfl (Nat.le_of_ble_eq_true rfl) (fun _ => rfl) E (fun v103 E => ?_)
  exact qt_sub _ [1, 2, 3, 0] rfl ((s_X12_walk_b104_loop x1 x2 v103 h E G))
noncomputable def f_X12_walk_b96 (x1 : Int32) (x2 : Int32) (x3 : Int32) (h : qa_M) : Option ((Int32 × Int32 × Int32 × qa_M) ⊕ (Int32 × qa_M)) :=
  qbd (x3 + (1 : Int32)) (fun v96 : Int32 =>
  some (.inl (x1, x2, v96, h)))
set_option maxRecDepth 20000 in
theorem s_X12_walk_b96 {l : Launch} {g : qa_G} {d : Nat} {rz : Option Value} {hz : qa_M} (x1 : Int32) (x2 : Int32) (x3 : Int32) (h : qa_M) {z : ((Int32 × Int32 × Int32 × qa_M) ⊕ (Int32 × qa_M))} (E : f_X12_walk_b96 x1 x2 x3 h = some z) (G : (Sum.elim (fun (sz : Int32 × Int32 × Int32 × qa_M) => qt_At l g (yX12_walk, cX12_walk, 10, (some .int)) (d + 4) 0 0 32 [(0, .ref (g.1 + 119)), (1, .int sz.1), (2, .int sz.2.1), (3, .int sz.2.2.1)] [] sz.2.2.2 rz hz) (qg_i rz hz)) z) : qt_At l g (yX12_walk, cX12_walk, 10, (some .int)) (d + 4) 0 0 96 [(0, .ref (g.1 + 119)), (1, .int x1), (2, .int x2), (3, .int x3)] [] h rz hz := by
  unfold f_X12_walk_b96 at E
  refine qt_iinc 3 (fun v96 => [(3, .int v96), (0, .ref (g.1 + 119)), (1, .int x1), (2, .int x2)]) dX12_walk_96 rfl ci_1 (Nat.le_of_ble_eq_true rfl) (fun _ => rfl) E (fun v96 E => ?_)
  refine qt_goto 32 dX12_walk_99 (by decide) ?_
  cases E
  exact qt_sub _ [1, 2, 3, 0] rfl (G)
noncomputable def f_X12_walk_b55 (x1 : Int32) (x2 : Int32) (x3 : Int32) (x4 : Int32) (h : qa_M) : Option ((Int32 × Int32 × Int32 × Int32 × qa_M) ⊕ ((Int32 × Int32 × Int32 × qa_M) ⊕ (Int32 × qa_M))) :=
  qck (2 : Int32) 8 (
  if (h.1 120 (2 : Int32).toNatClampNeg) ≤ x4 then (
   qup (f_X12_walk_b96 x1 x2 x3 h))
  else (
   qck x4 8 (
   qck (h.1 122 x4.toNatClampNeg) 36 (
   qck (((8 : Int32) * x3) + x4) 64 (
   qbd (qw_I h 163 (((8 : Int32) * x3) + x4).toNatClampNeg (h.1 161 (h.1 122 x4.toNatClampNeg).toNatClampNeg)) (fun h89 : qa_M =>
   qbd (x4 + (1 : Int32)) (fun v90 : Int32 =>
   some (.inl (x1, x2, x3, v90, h89)))))))))
set_option maxRecDepth 20000 in
theorem s_X12_walk_b55 {l : Launch} {g : qa_G} {d : Nat} {rz : Option Value} {hz : qa_M} (x1 : Int32) (x2 : Int32) (x3 : Int32) (x4 : Int32) (h : qa_M) {z : ((Int32 × Int32 × Int32 × Int32 × qa_M) ⊕ ((Int32 × Int32 × Int32 × qa_M) ⊕ (Int32 × qa_M)))} (E : f_X12_walk_b55 x1 x2 x3 x4 h = some z) (G : (Sum.elim (fun (sz : Int32 × Int32 × Int32 × Int32 × qa_M) => qt_At l g (yX12_walk, cX12_walk, 10, (some .int)) (d + 4) 0 0 55 [(0, .ref (g.1 + 119)), (1, .int sz.1), (2, .int sz.2.1), (3, .int sz.2.2.1), (4, .int sz.2.2.2.1)] [] sz.2.2.2.2 rz hz) (Sum.elim (fun (sz : Int32 × Int32 × Int32 × qa_M) => qt_At l g (yX12_walk, cX12_walk, 10, (some .int)) (d + 4) 0 0 32 [(0, .ref (g.1 + 119)), (1, .int sz.1), (2, .int sz.2.1), (3, .int sz.2.2.1)] [] sz.2.2.2 rz hz) (qg_i rz hz))) z) : qt_At l g (yX12_walk, cX12_walk, 10, (some .int)) (d + 4) 0 0 55 [(0, .ref (g.1 + 119)), (1, .int x1), (2, .int x2), (3, .int x3), (4, .int x4)] [] h rz hz := by
  unfold f_X12_walk_b55 at E
  refine qt_iload 4 dX12_walk_55 rfl ?_
  refine qt_aload_n 0 dX12_walk_57 rfl rfl ?_
  refine qt_getS 120 (wl_119 h) fe_RX12_7 rfl dX12_walk_58 ?_
  refine qt_iconst dX12_walk_61 ci_2 ?_
  refine qt_iald (wl_120 h) dX12_walk_62 E (fun E => ?_)
  refine qt_icmp_ge 96 dX12_walk_63 (by decide) E (fun E => ?_) (fun E => ?_)
  · obtain ⟨z0_, E, G⟩ := qup_g E G
    exact qt_sub _ [0, 1, 2, 3] rfl ((s_X12_walk_b96 x1 x2 x3 h E G))
  · refine qt_aload_n 0 dX12_walk_66 rfl rfl ?_
    refine qt_getS 163 (wl_119 h) fe_RX12_145 rfl dX12_walk_67 ?_
    refine qt_bipush dX12_walk_70 cb_8 ?_
    refine qt_iload_n 3 dX12_walk_72 rfl rfl ?_
    refine qt_imul dX12_walk_73 ?_
    refine qt_iload 4 dX12_walk_74 rfl ?_
    refine qt_iadd dX12_walk_76 ?_
    refine qt_aload_n 0 dX12_walk_77 rfl rfl ?_
    refine qt_getS 161 (wl_119 h) fe_RX12_139 rfl dX12_walk_78 ?_
    refine qt_aload_n 0 dX12_walk_81 rfl rfl ?_
    refine qt_getS 122 (wl_119 h) fe_RX12_16 rfl dX12_walk_82 ?_
    refine qt_iload 4 dX12_walk_85 rfl ?_
    refine qt_iald (wl_122 h) dX12_walk_87 E (fun E => ?_)
    refine qt_iald (wl_161 h) dX12_walk_88 E (fun E => ?_)
    refine qt_iast (wl_163 h) dX12_walk_89 E (fun h89 E => ?_)
    refine qt_iinc 4 (fun v90 => [(4, .int v90), (0, .ref (g.1 + 119)), (1, .int x1), (2, .int x2), (3, .int x3)]) dX12_walk_90 rfl ci_1 (Nat.le_of_ble_eq_true rfl) (fun _ => rfl) E (fun v90 E => ?_)
    refine qt_goto 55 dX12_walk_93 (by decide) ?_
    cases E
    exact qt_sub _ [1, 2, 3, 4, 0] rfl (G)
noncomputable def f_X12_walk_b55_loop (x1 : Int32) (x2 : Int32) (x3 : Int32) (x4 : Int32) (h : qa_M) : Option ((Int32 × Int32 × Int32 × qa_M) ⊕ (Int32 × qa_M)) := qlp (fun sz : Int32 × Int32 × Int32 × Int32 × qa_M => f_X12_walk_b55 sz.1 sz.2.1 sz.2.2.1 sz.2.2.2.1 sz.2.2.2.2) (x1, x2, x3, x4, h)
theorem s_X12_walk_b55_loop {l : Launch} {g : qa_G} {d : Nat} {rz : Option Value} {hz : qa_M} (x1 : Int32) (x2 : Int32) (x3 : Int32) (x4 : Int32) (h : qa_M) {z : ((Int32 × Int32 × Int32 × qa_M) ⊕ (Int32 × qa_M))} (E : f_X12_walk_b55_loop x1 x2 x3 x4 h = some z) (G : (Sum.elim (fun (sz : Int32 × Int32 × Int32 × qa_M) => qt_At l g (yX12_walk, cX12_walk, 10, (some .int)) (d + 4) 0 0 32 [(0, .ref (g.1 + 119)), (1, .int sz.1), (2, .int sz.2.1), (3, .int sz.2.2.1)] [] sz.2.2.2 rz hz) (qg_i rz hz)) z) : qt_At l g (yX12_walk, cX12_walk, 10, (some .int)) (d + 4) 0 0 55 [(0, .ref (g.1 + 119)), (1, .int x1), (2, .int x2), (3, .int x3), (4, .int x4)] [] h rz hz :=
  qlp_ind (fun sz : Int32 × Int32 × Int32 × Int32 × qa_M => qt_At l g (yX12_walk, cX12_walk, 10, (some .int)) (d + 4) 0 0 55 [(0, .ref (g.1 + 119)), (1, .int sz.1), (2, .int sz.2.1), (3, .int sz.2.2.1), (4, .int sz.2.2.2.1)] [] sz.2.2.2.2 rz hz) (fun sz E => s_X12_walk_b55 sz.1 sz.2.1 sz.2.2.1 sz.2.2.2.1 sz.2.2.2.2 E G) (fun sz sz2 E ih => s_X12_walk_b55 sz.1 sz.2.1 sz.2.2.1 sz.2.2.2.1 sz.2.2.2.2 E ih) (x1, x2, x3, x4, h) E
noncomputable def f_X12_walk_b32 (x1 : Int32) (x2 : Int32) (x3 : Int32) (h : qa_M) : Option ((Int32 × Int32 × Int32 × qa_M) ⊕ (Int32 × qa_M)) :=
  qck (2 : Int32) 8 (
  if (h.1 120 (2 : Int32).toNatClampNeg) ≤ x3 then (
   qup (f_X12_walk_b102 x1 x2 h))
  else (
   qck x3 8 (
   qbv (m_X12_spreads (h.1 122 x3.toNatClampNeg) h) (fun h49 : qa_M =>
   qbd (0 : Int32) (fun v53 : Int32 =>
   f_X12_walk_b55_loop x1 x2 x3 v53 h49)))))
set_option maxRecDepth 20000 in
theorem s_X12_walk_b32 {l : Launch} {g : qa_G} {d : Nat} {rz : Option Value} {hz : qa_M} (x1 : Int32) (x2 : Int32) (x3 : Int32) (h : qa_M) {z : ((Int32 × Int32 × Int32 × qa_M) ⊕ (Int32 × qa_M))} (E : f_X12_walk_b32 x1 x2 x3 h = some z) (G : (Sum.elim (fun (sz : Int32 × Int32 × Int32 × qa_M) => qt_At l g (yX12_walk, cX12_walk, 10, (some .int)) (d + 4) 0 0 32 [(0, .ref (g.1 + 119)), (1, .int sz.1), (2, .int sz.2.1), (3, .int sz.2.2.1)] [] sz.2.2.2 rz hz) (qg_i rz hz)) z) : qt_At l g (yX12_walk, cX12_walk, 10, (some .int)) (d + 4) 0 0 32 [(0, .ref (g.1 + 119)), (1, .int x1), (2, .int x2), (3, .int x3)] [] h rz hz := by
  unfold f_X12_walk_b32 at E
  refine qt_iload_n 3 dX12_walk_32 rfl rfl ?_
  refine qt_aload_n 0 dX12_walk_33 rfl rfl ?_
  refine qt_getS 120 (wl_119 h) fe_RX12_7 rfl dX12_walk_34 ?_
  refine qt_iconst dX12_walk_37 ci_2 ?_
  refine qt_iald (wl_120 h) dX12_walk_38 E (fun E => ?_)
  refine qt_icmp_ge 102 dX12_walk_39 (by decide) E (fun E => ?_) (fun E => ?_)
  · obtain ⟨z0_, E, G⟩ := qup_g E G
    exact qt_sub _ [0, 1, 2] rfl ((s_X12_walk_b102 x1 x2 h E G))
  · refine qt_aload_n 0 dX12_walk_42 rfl rfl ?_
    refine qt_aload_n 0 dX12_walk_43 rfl rfl ?_
    refine qt_getS 122 (wl_119 h) fe_RX12_16 rfl dX12_walk_44 ?_
    refine qt_iload_n 3 dX12_walk_47 rfl rfl ?_
    refine qt_iald (wl_122 h) dX12_walk_48 E (fun E => ?_)
    obtain ⟨h49, e49, E⟩ := qbv_el E
    refine qt_callVv (b2 := 0) [.int (h.1 122 x3.toNatClampNeg)] (c_X12_spreads (h.1 122 x3.toNatClampNeg) h e49) cv_RX12_514 (wl_119 h) rfl rfl rfl (Nat.le_of_ble_eq_true rfl) (Nat.le_of_ble_eq_true rfl) dX12_walk_49 ?_
    refine qt_iconst dX12_walk_52 ci_0 ?_
    refine qt_istore (fun v53 => [(4, .int v53), (0, .ref (g.1 + 119)), (1, .int x1), (2, .int x2), (3, .int x3)]) dX12_walk_53 (Nat.le_of_ble_eq_true rfl) (fun _ => rfl) E (fun v53 E => ?_)
    exact qt_sub _ [1, 2, 3, 4, 0] rfl ((s_X12_walk_b55_loop x1 x2 x3 v53 h49 E G))
noncomputable def f_X12_walk_b32_loop (x1 : Int32) (x2 : Int32) (x3 : Int32) (h : qa_M) : Option (Int32 × qa_M) := qlp (fun sz : Int32 × Int32 × Int32 × qa_M => f_X12_walk_b32 sz.1 sz.2.1 sz.2.2.1 sz.2.2.2) (x1, x2, x3, h)
theorem s_X12_walk_b32_loop {l : Launch} {g : qa_G} {d : Nat} {rz : Option Value} {hz : qa_M} (x1 : Int32) (x2 : Int32) (x3 : Int32) (h : qa_M) {z : (Int32 × qa_M)} (E : f_X12_walk_b32_loop x1 x2 x3 h = some z) (G : (qg_i rz hz) z) : qt_At l g (yX12_walk, cX12_walk, 10, (some .int)) (d + 4) 0 0 32 [(0, .ref (g.1 + 119)), (1, .int x1), (2, .int x2), (3, .int x3)] [] h rz hz :=
  qlp_ind (fun sz : Int32 × Int32 × Int32 × qa_M => qt_At l g (yX12_walk, cX12_walk, 10, (some .int)) (d + 4) 0 0 32 [(0, .ref (g.1 + 119)), (1, .int sz.1), (2, .int sz.2.1), (3, .int sz.2.2.1)] [] sz.2.2.2 rz hz) (fun sz E => s_X12_walk_b32 sz.1 sz.2.1 sz.2.2.1 sz.2.2.2 E G) (fun sz sz2 E ih => s_X12_walk_b32 sz.1 sz.2.1 sz.2.2.1 sz.2.2.2 E ih) (x1, x2, x3, h) E
noncomputable def m_X12_walk (x1 : Int32) (x2 : Int32) (h : qa_M) : Option (Int32 × qa_M) :=
  qbn (m_X12_isHill x1 h) (fun (c2 : Int32) (h2 : qa_M) =>
  if c2 = 0 then (
   some ((-1 : Int32), h2))
  else (
   qck (2 : Int32) 8 (
   qbn (m_X12_in x2.toInt64 (0 : Int64) ((((1 : Int32) <<< ((h2.1 120 (2 : Int32).toNatClampNeg) &&& 31)) - (1 : Int32)).toInt64) h2) (fun (c22 : Int32) (h22 : qa_M) =>
   if c22 = 0 then (
    some ((-1 : Int32), h22))
   else (
    qbd (0 : Int32) (fun v31 : Int32 =>
    f_X12_walk_b32_loop x1 x2 v31 h22))))))
set_option maxRecDepth 20000 in
theorem c_X12_walk {l : Launch} {g : qa_G} {d : Nat} (x1 : Int32) (x2 : Int32) (h : qa_M) {c : Int32} {h1 : qa_M} (E : m_X12_walk x1 x2 h = some (c, h1)) : qt_Met l g (yX12_walk, cX12_walk, 10, (some .int)) (d + 4) 0 [.ref (g.1 + 119), .int x1, .int x2] h (some (.int c)) h1 := by
  refine qt_Met.of (plainFor_of_name (by decide)) (Nat.le_of_ble_eq_true rfl) ?_
  have G : qg_i (some (.int c)) h1 ((c, h1)) := ⟨rfl, rfl⟩
  unfold m_X12_walk at E
  refine qt_aload_n 0 dX12_walk_0 rfl rfl ?_
  refine qt_iload_n 1 dX12_walk_1 rfl rfl ?_
  obtain ⟨c2, h2, e2, E⟩ := qbn_el E
  refine qt_callVi (b2 := 0) [.int x1] (c_X12_isHill x1 h e2) cv_RX12_194 (wl_119 h) rfl rfl rfl (Nat.le_of_ble_eq_true rfl) (Nat.le_of_ble_eq_true rfl) dX12_walk_2 ?_
  refine qt_if_eq 28 dX12_walk_5 (by decide) E (fun E => ?_) (fun E => ?_)
  · refine qt_iconst dX12_walk_28 ci_m1 ?_
    exact qt_ireturn rfl (Nat.le_of_ble_eq_true rfl) dX12_walk_29 E G
  · refine qt_iload_n 2 dX12_walk_8 rfl rfl ?_
    refine qt_i2l dX12_walk_9 ?_
    refine qt_lconst dX12_walk_10 cl_0 ?_
    refine qt_iconst dX12_walk_11 ci_1 ?_
    refine qt_aload_n 0 dX12_walk_12 rfl rfl ?_
    refine qt_getS 120 (wl_119 h2) fe_RX12_7 rfl dX12_walk_13 ?_
    refine qt_iconst dX12_walk_16 ci_2 ?_
    refine qt_iald (wl_120 h2) dX12_walk_17 E (fun E => ?_)
    refine qt_ishl dX12_walk_18 ?_
    refine qt_iconst dX12_walk_19 ci_1 ?_
    refine qt_isub dX12_walk_20 ?_
    refine qt_i2l dX12_walk_21 ?_
    obtain ⟨c22, h22, e22, E⟩ := qbn_el E
    refine qt_callSi (b2 := 0) [.long x2.toInt64, .long (0 : Int64), .long ((((1 : Int32) <<< ((h2.1 120 (2 : Int32).toNatClampNeg) &&& 31)) - (1 : Int32)).toInt64)] (c_X12_in x2.toInt64 (0 : Int64) ((((1 : Int32) <<< ((h2.1 120 (2 : Int32).toNatClampNeg) &&& 31)) - (1 : Int32)).toInt64) h2 e22) cv_RX12_161 rfl (Nat.le_of_ble_eq_true rfl) (Nat.le_of_ble_eq_true rfl) dX12_walk_22 ?_
    refine qt_if_ne 30 dX12_walk_25 (by decide) E (fun E => ?_) (fun E => ?_)
    · refine qt_iconst dX12_walk_30 ci_0 ?_
      refine qt_istore_n (fun v31 => [(3, .int v31), (0, .ref (g.1 + 119)), (1, .int x1), (2, .int x2)]) dX12_walk_31 rfl (Nat.le_of_ble_eq_true rfl) (fun _ => rfl) E (fun v31 E => ?_)
      exact qt_sub _ [1, 2, 3, 0] rfl ((s_X12_walk_b32_loop x1 x2 v31 h22 E G))
    · refine qt_iconst dX12_walk_28 ci_m1 ?_
      exact qt_ireturn rfl (Nat.le_of_ble_eq_true rfl) dX12_walk_29 E G
noncomputable def m_X12_seed (x1 : Int32) (h : qa_M) : Option (Int32 × qa_M) :=
  if 0 ≤ x1 then (
   qck (7 : Int32) 8 (
   qbd (h.1 120 (7 : Int32).toNatClampNeg) (fun v13 : Int32 =>
   qck (7 : Int32) 8 (
   qbd (qw_I h 120 (7 : Int32).toNatClampNeg x1) (fun h21 : qa_M =>
   some (v13, h21))))))
  else (
   some ((-1 : Int32), h))
set_option maxRecDepth 20000 in
theorem c_X12_seed {l : Launch} {g : qa_G} {d : Nat} (x1 : Int32) (h : qa_M) {c : Int32} {h1 : qa_M} (E : m_X12_seed x1 h = some (c, h1)) : qt_Met l g (yX12_seed, cX12_seed, 3, (some .int)) d 0 [.ref (g.1 + 119), .int x1] h (some (.int c)) h1 := by
  refine qt_Met.of (plainFor_of_name (by decide)) (Nat.le_of_ble_eq_true rfl) ?_
  have G : qg_i (some (.int c)) h1 ((c, h1)) := ⟨rfl, rfl⟩
  unfold m_X12_seed at E
  refine qt_iload_n 1 dX12_seed_0 rfl rfl ?_
  refine qt_if_ge 6 dX12_seed_1 (by decide) E (fun E => ?_) (fun E => ?_)
  · refine qt_aload_n 0 dX12_seed_6 rfl rfl ?_
    refine qt_getS 120 (wl_119 h) fe_RX12_7 rfl dX12_seed_7 ?_
    refine qt_bipush dX12_seed_10 cb_7 ?_
    refine qt_iald (wl_120 h) dX12_seed_12 E (fun E => ?_)
    refine qt_istore_n (fun v13 => [(2, .int v13), (0, .ref (g.1 + 119)), (1, .int x1)]) dX12_seed_13 rfl (Nat.le_of_ble_eq_true rfl) (fun _ => rfl) E (fun v13 E => ?_)
    refine qt_aload_n 1 dX12_seed_14 rfl rfl ?_
    refine qt_getS 120 (wl_119 h) fe_RX12_7 rfl dX12_seed_15 ?_
    refine qt_bipush dX12_seed_18 cb_7 ?_
    refine qt_iload_n 2 dX12_seed_20 rfl rfl ?_
    refine qt_iast (wl_120 h) dX12_seed_21 E (fun h21 E => ?_)
    refine qt_iload_n 0 dX12_seed_22 rfl rfl ?_
    exact qt_ireturn rfl (Nat.le_of_ble_eq_true rfl) dX12_seed_23 E G
  · refine qt_iconst dX12_seed_4 ci_m1 ?_
    exact qt_ireturn rfl (Nat.le_of_ble_eq_true rfl) dX12_seed_5 E G
noncomputable def m_X12_drawn (x1 : Int32) (h : qa_M) : Option (Int32 × qa_M) :=
  qbn (m_X12_isSet x1 h) (fun (c2 : Int32) (h2 : qa_M) =>
  if c2 = 0 then (
   some ((-1 : Int32), h2))
  else (
   qbn (m_X12_manyFit x1 h2) (fun (c12 : Int32) (h12 : qa_M) =>
   qbd c12 (fun v15 : Int32 =>
   if v15 = 0 then (
    some ((-2 : Int32), h12))
   else (
    qck (7 : Int32) 8 (
    qck (7 : Int32) 8 (
    qbd (qw_I h12 120 (7 : Int32).toNatClampNeg ((((((h12.1 120 (7 : Int32).toNatClampNeg).toInt64) * (1103515245 : Int64)) + (12345 : Int64)) - ((((h12.1 120 (7 : Int32).toNatClampNeg).toInt64) * (1103515245 : Int64)) + (12345 : Int64)) / (2147483648 : Int64) * (2147483648 : Int64)).toInt32)) (fun h50 : qa_M =>
    qck (7 : Int32) 8 (
    qnz (v15 = 0) (
    some ((((h50.1 120 (7 : Int32).toNatClampNeg) / (65536 : Int32)) - ((h50.1 120 (7 : Int32).toNatClampNeg) / (65536 : Int32)) / v15 * v15), h50)))))))))))
set_option maxRecDepth 20000 in
theorem c_X12_drawn {l : Launch} {g : qa_G} {d : Nat} (x1 : Int32) (h : qa_M) {c : Int32} {h1 : qa_M} (E : m_X12_drawn x1 h = some (c, h1)) : qt_Met l g (yX12_drawn, cX12_drawn, 3, (some .int)) (d + 8) 0 [.ref (g.1 + 119), .int x1] h (some (.int c)) h1 := by
  refine qt_Met.of (plainFor_of_name (by decide)) (Nat.le_of_ble_eq_true rfl) ?_
  have G : qg_i (some (.int c)) h1 ((c, h1)) := ⟨rfl, rfl⟩
  unfold m_X12_drawn at E
  refine qt_aload_n 0 dX12_drawn_0 rfl rfl ?_
  refine qt_iload_n 1 dX12_drawn_1 rfl rfl ?_
  obtain ⟨c2, h2, e2, E⟩ := qbn_el E
  refine qt_callVi (b2 := 0) [.int x1] (c_X12_isSet x1 h e2) cv_RX12_452 (wl_119 h) rfl rfl rfl (Nat.le_of_ble_eq_true rfl) (Nat.le_of_ble_eq_true rfl) dX12_drawn_2 ?_
  refine qt_if_ne 10 dX12_drawn_5 (by decide) E (fun E => ?_) (fun E => ?_)
  · refine qt_aload_n 0 dX12_drawn_10 rfl rfl ?_
    refine qt_iload_n 1 dX12_drawn_11 rfl rfl ?_
    obtain ⟨c12, h12, e12, E⟩ := qbn_el E
    refine qt_callVi (b2 := 0) [.int x1] (c_X12_manyFit x1 h2 e12) cv_RX12_455 (wl_119 h2) rfl rfl rfl (Nat.le_of_ble_eq_true rfl) (Nat.le_of_ble_eq_true rfl) dX12_drawn_12 ?_
    refine qt_istore_n (fun v15 => [(2, .int v15), (0, .ref (g.1 + 119)), (1, .int x1)]) dX12_drawn_15 rfl (Nat.le_of_ble_eq_true rfl) (fun _ => rfl) E (fun v15 E => ?_)
    refine qt_iload_n 0 dX12_drawn_16 rfl rfl ?_
    refine qt_if_ne 23 dX12_drawn_17 (by decide) E (fun E => ?_) (fun E => ?_)
    · refine qt_aload_n 1 dX12_drawn_23 rfl rfl ?_
      refine qt_getS 120 (wl_119 h12) fe_RX12_7 rfl dX12_drawn_24 ?_
      refine qt_bipush dX12_drawn_27 cb_7 ?_
      refine qt_aload_n 1 dX12_drawn_29 rfl rfl ?_
      refine qt_getS 120 (wl_119 h12) fe_RX12_7 rfl dX12_drawn_30 ?_
      refine qt_bipush dX12_drawn_33 cb_7 ?_
      refine qt_iald (wl_120 h12) dX12_drawn_35 E (fun E => ?_)
      refine qt_i2l dX12_drawn_36 ?_
      refine qt_ldc2 tb_1980 dX12_drawn_37 ?_
      refine qt_lmul dX12_drawn_40 ?_
      refine qt_ldc2 tb_1981 dX12_drawn_41 ?_
      refine qt_ladd dX12_drawn_44 ?_
      refine qt_ldc2 tb_1982 dX12_drawn_45 ?_
      refine qt_lremK dX12_drawn_48 (by decide) ?_
      refine qt_l2i dX12_drawn_49 ?_
      refine qt_iast (wl_120 h12) dX12_drawn_50 E (fun h50 E => ?_)
      refine qt_aload_n 1 dX12_drawn_51 rfl rfl ?_
      refine qt_getS 120 (wl_119 h50) fe_RX12_7 rfl dX12_drawn_52 ?_
      refine qt_bipush dX12_drawn_55 cb_7 ?_
      refine qt_iald (wl_120 h50) dX12_drawn_57 E (fun E => ?_)
      refine qt_ldcw tb_1983 dX12_drawn_58 ?_
      refine qt_idivK dX12_drawn_61 (by decide) ?_
      refine qt_iload_n 0 dX12_drawn_62 rfl rfl ?_
      refine qt_irem dX12_drawn_63 E (fun E => ?_)
      exact qt_ireturn rfl (Nat.le_of_ble_eq_true rfl) dX12_drawn_64 E G
    · refine qt_bipush dX12_drawn_20 cb_m2 ?_
      exact qt_ireturn rfl (Nat.le_of_ble_eq_true rfl) dX12_drawn_22 E G
  · refine qt_iconst dX12_drawn_8 ci_m1 ?_
    exact qt_ireturn rfl (Nat.le_of_ble_eq_true rfl) dX12_drawn_9 E G
noncomputable def f_X12_allThings_b4 (x1 : Int32) (x2 : Int32) (h : qa_M) : Option ((Int32 × Int32 × qa_M) ⊕ (Int32 × qa_M)) :=
  qck (4 : Int32) 8 (
  if (h.1 120 (4 : Int32).toNatClampNeg) ≤ x2 then (
   qup (some (x1, h)))
  else (
   qck x2 4 (
   qbd (x1 + (h.1 126 x2.toNatClampNeg)) (fun v22 : Int32 =>
   qbd (x2 + (1 : Int32)) (fun v23 : Int32 =>
   some (.inl (v22, v23, h)))))))
set_option maxRecDepth 20000 in
theorem s_X12_allThings_b4 {l : Launch} {g : qa_G} {d : Nat} {rz : Option Value} {hz : qa_M} (x1 : Int32) (x2 : Int32) (h : qa_M) {z : ((Int32 × Int32 × qa_M) ⊕ (Int32 × qa_M))} (E : f_X12_allThings_b4 x1 x2 h = some z) (G : (Sum.elim (fun (sz : Int32 × Int32 × qa_M) => qt_At l g (yX12_allThings, cX12_allThings, 3, (some .int)) d 0 0 4 [(0, .ref (g.1 + 119)), (1, .int sz.1), (2, .int sz.2.1)] [] sz.2.2 rz hz) (qg_i rz hz)) z) : qt_At l g (yX12_allThings, cX12_allThings, 3, (some .int)) d 0 0 4 [(0, .ref (g.1 + 119)), (1, .int x1), (2, .int x2)] [] h rz hz := by
  unfold f_X12_allThings_b4 at E
  refine qt_iload_n 2 dX12_allThings_4 rfl rfl ?_
  refine qt_aload_n 0 dX12_allThings_5 rfl rfl ?_
  refine qt_getS 120 (wl_119 h) fe_RX12_7 rfl dX12_allThings_6 ?_
  refine qt_iconst dX12_allThings_9 ci_4 ?_
  refine qt_iald (wl_120 h) dX12_allThings_10 E (fun E => ?_)
  refine qt_icmp_ge 29 dX12_allThings_11 (by decide) E (fun E => ?_) (fun E => ?_)
  · refine qt_iload_n 1 dX12_allThings_29 rfl rfl ?_
    obtain ⟨z0_, E, G⟩ := qup_g E G
    exact qt_ireturn rfl (Nat.le_of_ble_eq_true rfl) dX12_allThings_30 E G
  · refine qt_iload_n 1 dX12_allThings_14 rfl rfl ?_
    refine qt_aload_n 0 dX12_allThings_15 rfl rfl ?_
    refine qt_getS 126 (wl_119 h) fe_RX12_28 rfl dX12_allThings_16 ?_
    refine qt_iload_n 2 dX12_allThings_19 rfl rfl ?_
    refine qt_iald (wl_126 h) dX12_allThings_20 E (fun E => ?_)
    refine qt_iadd dX12_allThings_21 ?_
    refine qt_istore_n (fun v22 => [(1, .int v22), (0, .ref (g.1 + 119)), (2, .int x2)]) dX12_allThings_22 rfl (Nat.le_of_ble_eq_true rfl) (fun _ => rfl) E (fun v22 E => ?_)
    refine qt_iinc 2 (fun v23 => [(2, .int v23), (1, .int v22), (0, .ref (g.1 + 119))]) dX12_allThings_23 rfl ci_1 (Nat.le_of_ble_eq_true rfl) (fun _ => rfl) E (fun v23 E => ?_)
    refine qt_goto 4 dX12_allThings_26 (by decide) ?_
    cases E
    exact qt_sub _ [2, 1, 0] rfl (G)
noncomputable def f_X12_allThings_b4_loop (x1 : Int32) (x2 : Int32) (h : qa_M) : Option (Int32 × qa_M) := qlp (fun sz : Int32 × Int32 × qa_M => f_X12_allThings_b4 sz.1 sz.2.1 sz.2.2) (x1, x2, h)
theorem s_X12_allThings_b4_loop {l : Launch} {g : qa_G} {d : Nat} {rz : Option Value} {hz : qa_M} (x1 : Int32) (x2 : Int32) (h : qa_M) {z : (Int32 × qa_M)} (E : f_X12_allThings_b4_loop x1 x2 h = some z) (G : (qg_i rz hz) z) : qt_At l g (yX12_allThings, cX12_allThings, 3, (some .int)) d 0 0 4 [(0, .ref (g.1 + 119)), (1, .int x1), (2, .int x2)] [] h rz hz :=
  qlp_ind (fun sz : Int32 × Int32 × qa_M => qt_At l g (yX12_allThings, cX12_allThings, 3, (some .int)) d 0 0 4 [(0, .ref (g.1 + 119)), (1, .int sz.1), (2, .int sz.2.1)] [] sz.2.2 rz hz) (fun sz E => s_X12_allThings_b4 sz.1 sz.2.1 sz.2.2 E G) (fun sz sz2 E ih => s_X12_allThings_b4 sz.1 sz.2.1 sz.2.2 E ih) (x1, x2, h) E
noncomputable def m_X12_allThings (h : qa_M) : Option (Int32 × qa_M) :=
  qbd (0 : Int32) (fun v1 : Int32 =>
  qbd (0 : Int32) (fun v3 : Int32 =>
  f_X12_allThings_b4_loop v1 v3 h))
set_option maxRecDepth 20000 in
theorem c_X12_allThings {l : Launch} {g : qa_G} {d : Nat} (h : qa_M) {c : Int32} {h1 : qa_M} (E : m_X12_allThings h = some (c, h1)) : qt_Met l g (yX12_allThings, cX12_allThings, 3, (some .int)) d 0 [.ref (g.1 + 119)] h (some (.int c)) h1 := by
  refine qt_Met.of (plainFor_of_name (by decide)) (Nat.le_of_ble_eq_true rfl) ?_
  have G : qg_i (some (.int c)) h1 ((c, h1)) := ⟨rfl, rfl⟩
  unfold m_X12_allThings at E
  refine qt_iconst dX12_allThings_0 ci_0 ?_
  refine qt_istore_n (fun v1 => [(1, .int v1), (0, .ref (g.1 + 119))]) dX12_allThings_1 rfl (Nat.le_of_ble_eq_true rfl) (fun _ => rfl) E (fun v1 E => ?_)
  refine qt_iconst dX12_allThings_2 ci_0 ?_
  refine qt_istore_n (fun v3 => [(2, .int v3), (1, .int v1), (0, .ref (g.1 + 119))]) dX12_allThings_3 rfl (Nat.le_of_ble_eq_true rfl) (fun _ => rfl) E (fun v3 E => ?_)
  exact qt_sub _ [2, 1, 0] rfl ((s_X12_allThings_b4_loop v1 v3 h E G))
noncomputable def m_X12_count (x1 : Int32) (h : qa_M) : Option (Int32 × qa_M) :=
  if x1 = (0 : Int32) then (
   qck (0 : Int32) 8 (
   some (h.1 120 (0 : Int32).toNatClampNeg, h)))
  else (
  if x1 = (1 : Int32) then (
   qck (1 : Int32) 8 (
   some (h.1 120 (1 : Int32).toNatClampNeg, h)))
  else (
  if x1 = (2 : Int32) then (
   qck (2 : Int32) 8 (
   some (h.1 120 (2 : Int32).toNatClampNeg, h)))
  else (
  if x1 = (3 : Int32) then (
   qck (3 : Int32) 8 (
   some (h.1 120 (3 : Int32).toNatClampNeg, h)))
  else (
  if x1 = (4 : Int32) then (
   qck (4 : Int32) 8 (
   some (h.1 120 (4 : Int32).toNatClampNeg, h)))
  else (
  if x1 = (5 : Int32) then (
   qbn (m_X12_allThings h) (fun (c96 : Int32) (h96 : qa_M) =>
   some (c96, h96)))
  else (
  if x1 = (6 : Int32) then (
   qck (5 : Int32) 8 (
   some (h.1 120 (5 : Int32).toNatClampNeg, h)))
  else (
  if x1 = (7 : Int32) then (
   some (h.1 119 24, h))
  else (
  if x1 = (8 : Int32) then (
   qck (6 : Int32) 8 (
   some (((h.1 120 (6 : Int32).toNatClampNeg) - (1 : Int32)), h)))
  else (
  if x1 = (9 : Int32) then (
   qck (7 : Int32) 8 (
   some (h.1 120 (7 : Int32).toNatClampNeg, h)))
  else (
  if x1 = (10 : Int32) then (
   some (h.1 119 20, h))
  else (
  some ((-1 : Int32), h))))))))))))
set_option maxRecDepth 20000 in
theorem c_X12_count {l : Launch} {g : qa_G} {d : Nat} (x1 : Int32) (h : qa_M) {c : Int32} {h1 : qa_M} (E : m_X12_count x1 h = some (c, h1)) : qt_Met l g (yX12_count, cX12_count, 2, (some .int)) (d + 1) 0 [.ref (g.1 + 119), .int x1] h (some (.int c)) h1 := by
  refine qt_Met.of (plainFor_of_name (by decide)) (Nat.le_of_ble_eq_true rfl) ?_
  have G : qg_i (some (.int c)) h1 ((c, h1)) := ⟨rfl, rfl⟩
  unfold m_X12_count at E
  refine qt_iload_n 1 dX12_count_0 rfl rfl ?_
  by_cases c1_0 : x1 = (0 : Int32)
  · replace E := qif_t c1_0 E
    refine qt_tabIn (off := 59) 60 dX12_count_1 c1_0 (by decide) (by decide) rfl (by decide) ?_
    refine qt_aload_n 0 dX12_count_60 rfl rfl ?_
    refine qt_getS 120 (wl_119 h) fe_RX12_7 rfl dX12_count_61 ?_
    refine qt_iconst dX12_count_64 ci_0 ?_
    refine qt_iald (wl_120 h) dX12_count_65 E (fun E => ?_)
    exact qt_ireturn rfl (Nat.le_of_ble_eq_true rfl) dX12_count_66 E G
  replace E := qif_f c1_0 E
  by_cases c1_1 : x1 = (1 : Int32)
  · replace E := qif_t c1_1 E
    refine qt_tabIn (off := 66) 67 dX12_count_1 c1_1 (by decide) (by decide) rfl (by decide) ?_
    refine qt_aload_n 0 dX12_count_67 rfl rfl ?_
    refine qt_getS 120 (wl_119 h) fe_RX12_7 rfl dX12_count_68 ?_
    refine qt_iconst dX12_count_71 ci_1 ?_
    refine qt_iald (wl_120 h) dX12_count_72 E (fun E => ?_)
    exact qt_ireturn rfl (Nat.le_of_ble_eq_true rfl) dX12_count_73 E G
  replace E := qif_f c1_1 E
  by_cases c1_2 : x1 = (2 : Int32)
  · replace E := qif_t c1_2 E
    refine qt_tabIn (off := 73) 74 dX12_count_1 c1_2 (by decide) (by decide) rfl (by decide) ?_
    refine qt_aload_n 0 dX12_count_74 rfl rfl ?_
    refine qt_getS 120 (wl_119 h) fe_RX12_7 rfl dX12_count_75 ?_
    refine qt_iconst dX12_count_78 ci_2 ?_
    refine qt_iald (wl_120 h) dX12_count_79 E (fun E => ?_)
    exact qt_ireturn rfl (Nat.le_of_ble_eq_true rfl) dX12_count_80 E G
  replace E := qif_f c1_2 E
  by_cases c1_3 : x1 = (3 : Int32)
  · replace E := qif_t c1_3 E
    refine qt_tabIn (off := 80) 81 dX12_count_1 c1_3 (by decide) (by decide) rfl (by decide) ?_
    refine qt_aload_n 0 dX12_count_81 rfl rfl ?_
    refine qt_getS 120 (wl_119 h) fe_RX12_7 rfl dX12_count_82 ?_
    refine qt_iconst dX12_count_85 ci_3 ?_
    refine qt_iald (wl_120 h) dX12_count_86 E (fun E => ?_)
    exact qt_ireturn rfl (Nat.le_of_ble_eq_true rfl) dX12_count_87 E G
  replace E := qif_f c1_3 E
  by_cases c1_4 : x1 = (4 : Int32)
  · replace E := qif_t c1_4 E
    refine qt_tabIn (off := 87) 88 dX12_count_1 c1_4 (by decide) (by decide) rfl (by decide) ?_
    refine qt_aload_n 0 dX12_count_88 rfl rfl ?_
    refine qt_getS 120 (wl_119 h) fe_RX12_7 rfl dX12_count_89 ?_
    refine qt_iconst dX12_count_92 ci_4 ?_
    refine qt_iald (wl_120 h) dX12_count_93 E (fun E => ?_)
    exact qt_ireturn rfl (Nat.le_of_ble_eq_true rfl) dX12_count_94 E G
  replace E := qif_f c1_4 E
  by_cases c1_5 : x1 = (5 : Int32)
  · replace E := qif_t c1_5 E
    refine qt_tabIn (off := 94) 95 dX12_count_1 c1_5 (by decide) (by decide) rfl (by decide) ?_
    refine qt_aload_n 0 dX12_count_95 rfl rfl ?_
    obtain ⟨c96, h96, e96, E⟩ := qbn_el E
    refine qt_callVi (b2 := 0) [] (c_X12_allThings h e96) cv_RX12_524 (wl_119 h) rfl rfl rfl (Nat.le_of_ble_eq_true rfl) (Nat.le_of_ble_eq_true rfl) dX12_count_96 ?_
    exact qt_ireturn rfl (Nat.le_of_ble_eq_true rfl) dX12_count_99 E G
  replace E := qif_f c1_5 E
  by_cases c1_6 : x1 = (6 : Int32)
  · replace E := qif_t c1_6 E
    refine qt_tabIn (off := 99) 100 dX12_count_1 c1_6 (by decide) (by decide) rfl (by decide) ?_
    refine qt_aload_n 0 dX12_count_100 rfl rfl ?_
    refine qt_getS 120 (wl_119 h) fe_RX12_7 rfl dX12_count_101 ?_
    refine qt_iconst dX12_count_104 ci_5 ?_
    refine qt_iald (wl_120 h) dX12_count_105 E (fun E => ?_)
    exact qt_ireturn rfl (Nat.le_of_ble_eq_true rfl) dX12_count_106 E G
  replace E := qif_f c1_6 E
  by_cases c1_7 : x1 = (7 : Int32)
  · replace E := qif_t c1_7 E
    refine qt_tabIn (off := 106) 107 dX12_count_1 c1_7 (by decide) (by decide) rfl (by decide) ?_
    refine qt_aload_n 0 dX12_count_107 rfl rfl ?_
    refine qt_getI (wl_119 h) fe_RX12_382 rfl dX12_count_108 ?_
    exact qt_ireturn rfl (Nat.le_of_ble_eq_true rfl) dX12_count_111 E G
  replace E := qif_f c1_7 E
  by_cases c1_8 : x1 = (8 : Int32)
  · replace E := qif_t c1_8 E
    refine qt_tabIn (off := 111) 112 dX12_count_1 c1_8 (by decide) (by decide) rfl (by decide) ?_
    refine qt_aload_n 0 dX12_count_112 rfl rfl ?_
    refine qt_getS 120 (wl_119 h) fe_RX12_7 rfl dX12_count_113 ?_
    refine qt_bipush dX12_count_116 cb_6 ?_
    refine qt_iald (wl_120 h) dX12_count_118 E (fun E => ?_)
    refine qt_iconst dX12_count_119 ci_1 ?_
    refine qt_isub dX12_count_120 ?_
    exact qt_ireturn rfl (Nat.le_of_ble_eq_true rfl) dX12_count_121 E G
  replace E := qif_f c1_8 E
  by_cases c1_9 : x1 = (9 : Int32)
  · replace E := qif_t c1_9 E
    refine qt_tabIn (off := 121) 122 dX12_count_1 c1_9 (by decide) (by decide) rfl (by decide) ?_
    refine qt_aload_n 0 dX12_count_122 rfl rfl ?_
    refine qt_getS 120 (wl_119 h) fe_RX12_7 rfl dX12_count_123 ?_
    refine qt_bipush dX12_count_126 cb_7 ?_
    refine qt_iald (wl_120 h) dX12_count_128 E (fun E => ?_)
    exact qt_ireturn rfl (Nat.le_of_ble_eq_true rfl) dX12_count_129 E G
  replace E := qif_f c1_9 E
  by_cases c1_10 : x1 = (10 : Int32)
  · replace E := qif_t c1_10 E
    refine qt_tabIn (off := 129) 130 dX12_count_1 c1_10 (by decide) (by decide) rfl (by decide) ?_
    refine qt_aload_n 0 dX12_count_130 rfl rfl ?_
    refine qt_getI (wl_119 h) fe_RX12_215 rfl dX12_count_131 ?_
    exact qt_ireturn rfl (Nat.le_of_ble_eq_true rfl) dX12_count_134 E G
  replace E := qif_f c1_10 E
  have e1_0 : (x1 : Int32).toInt ≠ 0 := fun q => c1_0 (Int32.toInt_inj.mp (q.trans (by decide)))
  have e1_1 : (x1 : Int32).toInt ≠ 1 := fun q => c1_1 (Int32.toInt_inj.mp (q.trans (by decide)))
  have e1_2 : (x1 : Int32).toInt ≠ 2 := fun q => c1_2 (Int32.toInt_inj.mp (q.trans (by decide)))
  have e1_3 : (x1 : Int32).toInt ≠ 3 := fun q => c1_3 (Int32.toInt_inj.mp (q.trans (by decide)))
  have e1_4 : (x1 : Int32).toInt ≠ 4 := fun q => c1_4 (Int32.toInt_inj.mp (q.trans (by decide)))
  have e1_5 : (x1 : Int32).toInt ≠ 5 := fun q => c1_5 (Int32.toInt_inj.mp (q.trans (by decide)))
  have e1_6 : (x1 : Int32).toInt ≠ 6 := fun q => c1_6 (Int32.toInt_inj.mp (q.trans (by decide)))
  have e1_7 : (x1 : Int32).toInt ≠ 7 := fun q => c1_7 (Int32.toInt_inj.mp (q.trans (by decide)))
  have e1_8 : (x1 : Int32).toInt ≠ 8 := fun q => c1_8 (Int32.toInt_inj.mp (q.trans (by decide)))
  have e1_9 : (x1 : Int32).toInt ≠ 9 := fun q => c1_9 (Int32.toInt_inj.mp (q.trans (by decide)))
  have e1_10 : (x1 : Int32).toInt ≠ 10 := fun q => c1_10 (Int32.toInt_inj.mp (q.trans (by decide)))
  refine qt_tabOut 135 dX12_count_1 (by omega) (by decide) ?_
  refine qt_iconst dX12_count_135 ci_m1 ?_
  exact qt_ireturn rfl (Nat.le_of_ble_eq_true rfl) dX12_count_136 E G
noncomputable def f_X12_carry_b42 (a1 : Nat) (x2 : Int32) (h : qa_M) : Option ((Int32 × qa_M) ⊕ qa_M) :=
  qbd (qw_I h 119 62 ((h.1 119 62) + (1 : Int32))) (fun h49 : qa_M =>
  qbd (x2 + (1 : Int32)) (fun v52 : Int32 =>
  some (.inl (v52, h49))))
set_option maxRecDepth 20000 in
theorem s_X12_carry_b42 {l : Launch} {g : qa_G} {d : Nat} {rz : Option Value} {hz : qa_M} (a1 : Nat) (x2 : Int32) (h : qa_M) {z : ((Int32 × qa_M) ⊕ qa_M)} (E : f_X12_carry_b42 a1 x2 h = some z) (G : (Sum.elim (fun (sz : Int32 × qa_M) => qt_At l g (yX12_carry, cX12_carry, 3, none) d 0 0 2 [(0, .ref (g.1 + 119)), (1, .ref (g.1 + a1)), (2, .int sz.1)] [] sz.2 rz hz) (qg_v rz hz)) z) : qt_At l g (yX12_carry, cX12_carry, 3, none) d 0 0 42 [(0, .ref (g.1 + 119)), (1, .ref (g.1 + a1)), (2, .int x2)] [] h rz hz := by
  unfold f_X12_carry_b42 at E
  refine qt_aload_n 0 dX12_carry_42 rfl rfl ?_
  refine qt_dup dX12_carry_43 rfl ?_
  refine qt_getI (wl_119 h) fe_RX12_530 rfl dX12_carry_44 ?_
  refine qt_iconst dX12_carry_47 ci_1 ?_
  refine qt_iadd dX12_carry_48 ?_
  refine qt_putI (wl_119 h) fd_RX12_530 rfl rfl rfl dX12_carry_49 E (fun h49 E => ?_)
  refine qt_iinc 2 (fun v52 => [(2, .int v52), (0, .ref (g.1 + 119)), (1, .ref (g.1 + a1))]) dX12_carry_52 rfl ci_1 (Nat.le_of_ble_eq_true rfl) (fun _ => rfl) E (fun v52 E => ?_)
  refine qt_goto 2 dX12_carry_55 (by decide) ?_
  cases E
  exact qt_sub _ [1, 2, 0] rfl (G)
noncomputable def f_X12_carry_b2 (a1 : Nat) (x2 : Int32) (h : qa_M) : Option ((Int32 × qa_M) ⊕ qa_M) :=
  qal 0 a1 h (fun n4 =>
  if (nI n4) ≤ x2 then (
   qup (some h))
  else (
   if (h.1 119 63) = 0 then (
    qal 0 a1 h (fun n40 =>
    qck x2 n40 (
    qck (h.1 119 62) 520 (
    qbd (qw_I h 165 (h.1 119 62).toNatClampNeg (h.1 a1 x2.toNatClampNeg)) (fun h41 : qa_M =>
    f_X12_carry_b42 a1 x2 h41)))))
   else (
    qck (h.1 119 62) 520 (
    qal 0 a1 h (fun n26 =>
    qck x2 n26 (
    qbd (qw_I h a1 x2.toNatClampNeg (h.1 165 (h.1 119 62).toNatClampNeg)) (fun h26 : qa_M =>
    f_X12_carry_b42 a1 x2 h26)))))))
set_option maxRecDepth 20000 in
theorem s_X12_carry_b2 {l : Launch} {g : qa_G} {d : Nat} {rz : Option Value} {hz : qa_M} (a1 : Nat) (x2 : Int32) (h : qa_M) {z : ((Int32 × qa_M) ⊕ qa_M)} (E : f_X12_carry_b2 a1 x2 h = some z) (G : (Sum.elim (fun (sz : Int32 × qa_M) => qt_At l g (yX12_carry, cX12_carry, 3, none) d 0 0 2 [(0, .ref (g.1 + 119)), (1, .ref (g.1 + a1)), (2, .int sz.1)] [] sz.2 rz hz) (qg_v rz hz)) z) : qt_At l g (yX12_carry, cX12_carry, 3, none) d 0 0 2 [(0, .ref (g.1 + 119)), (1, .ref (g.1 + a1)), (2, .int x2)] [] h rz hz := by
  unfold f_X12_carry_b2 at E
  refine qt_iload_n 2 dX12_carry_2 rfl rfl ?_
  refine qt_aload_n 1 dX12_carry_3 rfl rfl ?_
  obtain ⟨n4, w4, E⟩ := qal_el E
  refine qt_alen (v := nI n4) (by decide) w4 rfl dX12_carry_4 ?_
  refine qt_icmp_ge 58 dX12_carry_5 (by decide) E (fun E => ?_) (fun E => ?_)
  · obtain ⟨z0_, E, G⟩ := qup_g E G
    exact qt_vreturn rfl (Nat.le_of_ble_eq_true rfl) dX12_carry_58 E G
  · refine qt_aload_n 0 dX12_carry_8 rfl rfl ?_
    refine qt_getI (wl_119 h) fe_RX12_527 rfl dX12_carry_9 ?_
    refine qt_if_eq 30 dX12_carry_12 (by decide) E (fun E => ?_) (fun E => ?_)
    · refine qt_aload_n 0 dX12_carry_30 rfl rfl ?_
      refine qt_getS 165 (wl_119 h) fe_RX12_151 rfl dX12_carry_31 ?_
      refine qt_aload_n 0 dX12_carry_34 rfl rfl ?_
      refine qt_getI (wl_119 h) fe_RX12_530 rfl dX12_carry_35 ?_
      refine qt_aload_n 1 dX12_carry_38 rfl rfl ?_
      refine qt_iload_n 2 dX12_carry_39 rfl rfl ?_
      obtain ⟨n40, w40, E⟩ := qal_el E
      refine qt_iald w40 dX12_carry_40 E (fun E => ?_)
      refine qt_iast (wl_165 h) dX12_carry_41 E (fun h41 E => ?_)
      exact qt_sub _ [0, 1, 2] rfl ((s_X12_carry_b42 a1 x2 h41 E G))
    · refine qt_aload_n 1 dX12_carry_15 rfl rfl ?_
      refine qt_iload_n 2 dX12_carry_16 rfl rfl ?_
      refine qt_aload_n 0 dX12_carry_17 rfl rfl ?_
      refine qt_getS 165 (wl_119 h) fe_RX12_151 rfl dX12_carry_18 ?_
      refine qt_aload_n 0 dX12_carry_21 rfl rfl ?_
      refine qt_getI (wl_119 h) fe_RX12_530 rfl dX12_carry_22 ?_
      refine qt_iald (wl_165 h) dX12_carry_25 E (fun E => ?_)
      obtain ⟨n26, w26, E⟩ := qal_el E
      refine qt_iast w26 dX12_carry_26 E (fun h26 E => ?_)
      refine qt_goto 42 dX12_carry_27 (by decide) ?_
      exact qt_sub _ [0, 1, 2] rfl ((s_X12_carry_b42 a1 x2 h26 E G))
noncomputable def f_X12_carry_b2_loop (a1 : Nat) (x2 : Int32) (h : qa_M) : Option qa_M := qlp (fun sz : Int32 × qa_M => f_X12_carry_b2 a1 sz.1 sz.2) (x2, h)
theorem s_X12_carry_b2_loop {l : Launch} {g : qa_G} {d : Nat} {rz : Option Value} {hz : qa_M} (a1 : Nat) (x2 : Int32) (h : qa_M) {z : qa_M} (E : f_X12_carry_b2_loop a1 x2 h = some z) (G : (qg_v rz hz) z) : qt_At l g (yX12_carry, cX12_carry, 3, none) d 0 0 2 [(0, .ref (g.1 + 119)), (1, .ref (g.1 + a1)), (2, .int x2)] [] h rz hz :=
  qlp_ind (fun sz : Int32 × qa_M => qt_At l g (yX12_carry, cX12_carry, 3, none) d 0 0 2 [(0, .ref (g.1 + 119)), (1, .ref (g.1 + a1)), (2, .int sz.1)] [] sz.2 rz hz) (fun sz E => s_X12_carry_b2 a1 sz.1 sz.2 E G) (fun sz sz2 E ih => s_X12_carry_b2 a1 sz.1 sz.2 E ih) (x2, h) E
noncomputable def m_X12_carry (a1 : Nat) (h : qa_M) : Option qa_M :=
  qbd (0 : Int32) (fun v1 : Int32 =>
  f_X12_carry_b2_loop a1 v1 h)
set_option maxRecDepth 20000 in
theorem c_X12_carry {l : Launch} {g : qa_G} {d : Nat} (a1 : Nat) (h : qa_M) {h1 : qa_M} (E : m_X12_carry a1 h = some h1) : qt_Met l g (yX12_carry, cX12_carry, 3, none) d 0 [.ref (g.1 + 119), .ref (g.1 + a1)] h none h1 := by
  refine qt_Met.of (plainFor_of_name (by decide)) (Nat.le_of_ble_eq_true rfl) ?_
  have G : qg_v none h1 (h1) := ⟨rfl, rfl⟩
  unfold m_X12_carry at E
  refine qt_iconst dX12_carry_0 ci_0 ?_
  refine qt_istore_n (fun v1 => [(2, .int v1), (0, .ref (g.1 + 119)), (1, .ref (g.1 + a1))]) dX12_carry_1 rfl (Nat.le_of_ble_eq_true rfl) (fun _ => rfl) E (fun v1 E => ?_)
  exact qt_sub _ [1, 2, 0] rfl ((s_X12_carry_b2_loop a1 v1 h E G))
noncomputable def m_X12_carriesAll (x1 : Int32) (x2 : Int32) (h : qa_M) : Option qa_M :=
  qbd (qw_I h 119 62 ((130 : Int32) * x1)) (fun h6 : qa_M =>
  qpr (x2 = 0 ∨ x2 = 1) (
  qbd (qw_I h6 119 63 x2) (fun h11 : qa_M =>
  qbv (m_X12_carry 120 h11) (fun h19 : qa_M =>
  qbv (m_X12_carry 121 h19) (fun h27 : qa_M =>
  qbv (m_X12_carry 122 h27) (fun h35 : qa_M =>
  qbv (m_X12_carry 123 h35) (fun h43 : qa_M =>
  qbv (m_X12_carry 124 h43) (fun h51 : qa_M =>
  qbv (m_X12_carry 125 h51) (fun h59 : qa_M =>
  qbv (m_X12_carry 126 h59) (fun h67 : qa_M =>
  qbv (m_X12_carry 127 h67) (fun h75 : qa_M =>
  qbv (m_X12_carry 128 h75) (fun h83 : qa_M =>
  qbv (m_X12_carry 129 h83) (fun h91 : qa_M =>
  qbv (m_X12_carry 130 h91) (fun h99 : qa_M =>
  qbv (m_X12_carry 131 h99) (fun h107 : qa_M =>
  some h107)))))))))))))))
set_option maxRecDepth 20000 in
theorem c_X12_carriesAll {l : Launch} {g : qa_G} {d : Nat} (x1 : Int32) (x2 : Int32) (h : qa_M) {h1 : qa_M} (E : m_X12_carriesAll x1 x2 h = some h1) : qt_Met l g (yX12_carriesAll, cX12_carriesAll, 3, none) (d + 1) 0 [.ref (g.1 + 119), .int x1, .int x2] h none h1 := by
  refine qt_Met.of (plainFor_of_name (by decide)) (Nat.le_of_ble_eq_true rfl) ?_
  have G : qg_v none h1 (h1) := ⟨rfl, rfl⟩
  unfold m_X12_carriesAll at E
  refine qt_aload_n 0 dX12_carriesAll_0 rfl rfl ?_
  refine qt_sipush dX12_carriesAll_1 cs_130 ?_
  refine qt_iload_n 1 dX12_carriesAll_4 rfl rfl ?_
  refine qt_imul dX12_carriesAll_5 ?_
  refine qt_putI (wl_119 h) fd_RX12_530 rfl rfl rfl dX12_carriesAll_6 E (fun h6 E => ?_)
  refine qt_aload_n 0 dX12_carriesAll_9 rfl rfl ?_
  refine qt_iload_n 2 dX12_carriesAll_10 rfl rfl ?_
  obtain ⟨z11, E⟩ := qpr_el E
  refine qt_putI (wl_119 h6) fd_RX12_527 rfl (qz_nar z11) (qz_fit z11) dX12_carriesAll_11 E (fun h11 E => ?_)
  refine qt_aload_n 0 dX12_carriesAll_14 rfl rfl ?_
  refine qt_aload_n 0 dX12_carriesAll_15 rfl rfl ?_
  refine qt_getS 120 (wl_119 h11) fe_RX12_7 rfl dX12_carriesAll_16 ?_
  obtain ⟨h19, e19, E⟩ := qbv_el E
  refine qt_callVv (b2 := 0) [.ref (g.1 + 120)] (c_X12_carry 120 h11 e19) cv_RX12_533 (wl_119 h11) rfl rfl rfl (Nat.le_of_ble_eq_true rfl) (Nat.le_of_ble_eq_true rfl) dX12_carriesAll_19 ?_
  refine qt_aload_n 0 dX12_carriesAll_22 rfl rfl ?_
  refine qt_aload_n 0 dX12_carriesAll_23 rfl rfl ?_
  refine qt_getS 121 (wl_119 h19) fe_RX12_13 rfl dX12_carriesAll_24 ?_
  obtain ⟨h27, e27, E⟩ := qbv_el E
  refine qt_callVv (b2 := 0) [.ref (g.1 + 121)] (c_X12_carry 121 h19 e27) cv_RX12_533 (wl_119 h19) rfl rfl rfl (Nat.le_of_ble_eq_true rfl) (Nat.le_of_ble_eq_true rfl) dX12_carriesAll_27 ?_
  refine qt_aload_n 0 dX12_carriesAll_30 rfl rfl ?_
  refine qt_aload_n 0 dX12_carriesAll_31 rfl rfl ?_
  refine qt_getS 122 (wl_119 h27) fe_RX12_16 rfl dX12_carriesAll_32 ?_
  obtain ⟨h35, e35, E⟩ := qbv_el E
  refine qt_callVv (b2 := 0) [.ref (g.1 + 122)] (c_X12_carry 122 h27 e35) cv_RX12_533 (wl_119 h27) rfl rfl rfl (Nat.le_of_ble_eq_true rfl) (Nat.le_of_ble_eq_true rfl) dX12_carriesAll_35 ?_
  refine qt_aload_n 0 dX12_carriesAll_38 rfl rfl ?_
  refine qt_aload_n 0 dX12_carriesAll_39 rfl rfl ?_
  refine qt_getS 123 (wl_119 h35) fe_RX12_19 rfl dX12_carriesAll_40 ?_
  obtain ⟨h43, e43, E⟩ := qbv_el E
  refine qt_callVv (b2 := 0) [.ref (g.1 + 123)] (c_X12_carry 123 h35 e43) cv_RX12_533 (wl_119 h35) rfl rfl rfl (Nat.le_of_ble_eq_true rfl) (Nat.le_of_ble_eq_true rfl) dX12_carriesAll_43 ?_
  refine qt_aload_n 0 dX12_carriesAll_46 rfl rfl ?_
  refine qt_aload_n 0 dX12_carriesAll_47 rfl rfl ?_
  refine qt_getS 124 (wl_119 h43) fe_RX12_22 rfl dX12_carriesAll_48 ?_
  obtain ⟨h51, e51, E⟩ := qbv_el E
  refine qt_callVv (b2 := 0) [.ref (g.1 + 124)] (c_X12_carry 124 h43 e51) cv_RX12_533 (wl_119 h43) rfl rfl rfl (Nat.le_of_ble_eq_true rfl) (Nat.le_of_ble_eq_true rfl) dX12_carriesAll_51 ?_
  refine qt_aload_n 0 dX12_carriesAll_54 rfl rfl ?_
  refine qt_aload_n 0 dX12_carriesAll_55 rfl rfl ?_
  refine qt_getS 125 (wl_119 h51) fe_RX12_25 rfl dX12_carriesAll_56 ?_
  obtain ⟨h59, e59, E⟩ := qbv_el E
  refine qt_callVv (b2 := 0) [.ref (g.1 + 125)] (c_X12_carry 125 h51 e59) cv_RX12_533 (wl_119 h51) rfl rfl rfl (Nat.le_of_ble_eq_true rfl) (Nat.le_of_ble_eq_true rfl) dX12_carriesAll_59 ?_
  refine qt_aload_n 0 dX12_carriesAll_62 rfl rfl ?_
  refine qt_aload_n 0 dX12_carriesAll_63 rfl rfl ?_
  refine qt_getS 126 (wl_119 h59) fe_RX12_28 rfl dX12_carriesAll_64 ?_
  obtain ⟨h67, e67, E⟩ := qbv_el E
  refine qt_callVv (b2 := 0) [.ref (g.1 + 126)] (c_X12_carry 126 h59 e67) cv_RX12_533 (wl_119 h59) rfl rfl rfl (Nat.le_of_ble_eq_true rfl) (Nat.le_of_ble_eq_true rfl) dX12_carriesAll_67 ?_
  refine qt_aload_n 0 dX12_carriesAll_70 rfl rfl ?_
  refine qt_aload_n 0 dX12_carriesAll_71 rfl rfl ?_
  refine qt_getS 127 (wl_119 h67) fe_RX12_31 rfl dX12_carriesAll_72 ?_
  obtain ⟨h75, e75, E⟩ := qbv_el E
  refine qt_callVv (b2 := 0) [.ref (g.1 + 127)] (c_X12_carry 127 h67 e75) cv_RX12_533 (wl_119 h67) rfl rfl rfl (Nat.le_of_ble_eq_true rfl) (Nat.le_of_ble_eq_true rfl) dX12_carriesAll_75 ?_
  refine qt_aload_n 0 dX12_carriesAll_78 rfl rfl ?_
  refine qt_aload_n 0 dX12_carriesAll_79 rfl rfl ?_
  refine qt_getS 128 (wl_119 h75) fe_RX12_34 rfl dX12_carriesAll_80 ?_
  obtain ⟨h83, e83, E⟩ := qbv_el E
  refine qt_callVv (b2 := 0) [.ref (g.1 + 128)] (c_X12_carry 128 h75 e83) cv_RX12_533 (wl_119 h75) rfl rfl rfl (Nat.le_of_ble_eq_true rfl) (Nat.le_of_ble_eq_true rfl) dX12_carriesAll_83 ?_
  refine qt_aload_n 0 dX12_carriesAll_86 rfl rfl ?_
  refine qt_aload_n 0 dX12_carriesAll_87 rfl rfl ?_
  refine qt_getS 129 (wl_119 h83) fe_RX12_37 rfl dX12_carriesAll_88 ?_
  obtain ⟨h91, e91, E⟩ := qbv_el E
  refine qt_callVv (b2 := 0) [.ref (g.1 + 129)] (c_X12_carry 129 h83 e91) cv_RX12_533 (wl_119 h83) rfl rfl rfl (Nat.le_of_ble_eq_true rfl) (Nat.le_of_ble_eq_true rfl) dX12_carriesAll_91 ?_
  refine qt_aload_n 0 dX12_carriesAll_94 rfl rfl ?_
  refine qt_aload_n 0 dX12_carriesAll_95 rfl rfl ?_
  refine qt_getS 130 (wl_119 h91) fe_RX12_40 rfl dX12_carriesAll_96 ?_
  obtain ⟨h99, e99, E⟩ := qbv_el E
  refine qt_callVv (b2 := 0) [.ref (g.1 + 130)] (c_X12_carry 130 h91 e99) cv_RX12_533 (wl_119 h91) rfl rfl rfl (Nat.le_of_ble_eq_true rfl) (Nat.le_of_ble_eq_true rfl) dX12_carriesAll_99 ?_
  refine qt_aload_n 0 dX12_carriesAll_102 rfl rfl ?_
  refine qt_aload_n 0 dX12_carriesAll_103 rfl rfl ?_
  refine qt_getS 131 (wl_119 h99) fe_RX12_43 rfl dX12_carriesAll_104 ?_
  obtain ⟨h107, e107, E⟩ := qbv_el E
  refine qt_callVv (b2 := 0) [.ref (g.1 + 131)] (c_X12_carry 131 h99 e107) cv_RX12_533 (wl_119 h99) rfl rfl rfl (Nat.le_of_ble_eq_true rfl) (Nat.le_of_ble_eq_true rfl) dX12_carriesAll_107 ?_
  exact qt_vreturn rfl (Nat.le_of_ble_eq_true rfl) dX12_carriesAll_110 E G
noncomputable def m_X12_image (x1 : Int32) (h : qa_M) : Option (Int32 × qa_M) :=
  qbn (m_X12_in x1.toInt64 (0 : Int64) (3 : Int64) h) (fun (c6 : Int32) (h6 : qa_M) =>
  if c6 = 0 then (
   some ((-1 : Int32), h6))
  else (
   qck x1 4 (
   qbd (qw_I h6 166 x1.toNatClampNeg (1 : Int32)) (fun h20 : qa_M =>
   qbv (m_X12_carriesAll x1 (0 : Int32) h20) (fun h24 : qa_M =>
   qck (5 : Int32) 8 (
   some (h24.1 120 (5 : Int32).toNatClampNeg, h24)))))))
set_option maxRecDepth 20000 in
theorem c_X12_image {l : Launch} {g : qa_G} {d : Nat} (x1 : Int32) (h : qa_M) {c : Int32} {h1 : qa_M} (E : m_X12_image x1 h = some (c, h1)) : qt_Met l g (yX12_image, cX12_image, 2, (some .int)) (d + 2) 0 [.ref (g.1 + 119), .int x1] h (some (.int c)) h1 := by
  refine qt_Met.of (plainFor_of_name (by decide)) (Nat.le_of_ble_eq_true rfl) ?_
  have G : qg_i (some (.int c)) h1 ((c, h1)) := ⟨rfl, rfl⟩
  unfold m_X12_image at E
  refine qt_iload_n 1 dX12_image_0 rfl rfl ?_
  refine qt_i2l dX12_image_1 ?_
  refine qt_lconst dX12_image_2 cl_0 ?_
  refine qt_ldc2 tb_1808 dX12_image_3 ?_
  obtain ⟨c6, h6, e6, E⟩ := qbn_el E
  refine qt_callSi (b2 := 0) [.long x1.toInt64, .long (0 : Int64), .long (3 : Int64)] (c_X12_in x1.toInt64 (0 : Int64) (3 : Int64) h e6) cv_RX12_161 rfl (Nat.le_of_ble_eq_true rfl) (Nat.le_of_ble_eq_true rfl) dX12_image_6 ?_
  refine qt_if_ne 14 dX12_image_9 (by decide) E (fun E => ?_) (fun E => ?_)
  · refine qt_aload_n 0 dX12_image_14 rfl rfl ?_
    refine qt_getS 166 (wl_119 h6) fe_RX12_154 rfl dX12_image_15 ?_
    refine qt_iload_n 1 dX12_image_18 rfl rfl ?_
    refine qt_iconst dX12_image_19 ci_1 ?_
    refine qt_zast (wl_166 h6) (qz_nar (Or.inr rfl)) dX12_image_20 E (fun h20 E => ?_)
    refine qt_aload_n 0 dX12_image_21 rfl rfl ?_
    refine qt_iload_n 1 dX12_image_22 rfl rfl ?_
    refine qt_iconst dX12_image_23 ci_0 ?_
    obtain ⟨h24, e24, E⟩ := qbv_el E
    refine qt_callVv (b2 := 0) [.int x1, .int (0 : Int32)] (c_X12_carriesAll x1 (0 : Int32) h20 e24) cv_RX12_537 (wl_119 h20) rfl rfl rfl (Nat.le_of_ble_eq_true rfl) (Nat.le_of_ble_eq_true rfl) dX12_image_24 ?_
    refine qt_aload_n 0 dX12_image_27 rfl rfl ?_
    refine qt_getS 120 (wl_119 h24) fe_RX12_7 rfl dX12_image_28 ?_
    refine qt_iconst dX12_image_31 ci_5 ?_
    refine qt_iald (wl_120 h24) dX12_image_32 E (fun E => ?_)
    exact qt_ireturn rfl (Nat.le_of_ble_eq_true rfl) dX12_image_33 E G
  · refine qt_iconst dX12_image_12 ci_m1 ?_
    exact qt_ireturn rfl (Nat.le_of_ble_eq_true rfl) dX12_image_13 E G
noncomputable def m_X12_back (x1 : Int32) (h : qa_M) : Option (Int32 × qa_M) :=
  qbn (m_X12_in x1.toInt64 (0 : Int64) (3 : Int64) h) (fun (c6 : Int32) (h6 : qa_M) =>
  if c6 = 0 then (
   some ((-1 : Int32), h6))
  else (
   qck x1 4 (
   if (h6.1 166 x1.toNatClampNeg) = 0 then (
    some ((-1 : Int32), h6))
   else (
    qbv (m_X12_carriesAll x1 (1 : Int32) h6) (fun h26 : qa_M =>
    qck (5 : Int32) 8 (
    some (h26.1 120 (5 : Int32).toNatClampNeg, h26)))))))
set_option maxRecDepth 20000 in
theorem c_X12_back {l : Launch} {g : qa_G} {d : Nat} (x1 : Int32) (h : qa_M) {c : Int32} {h1 : qa_M} (E : m_X12_back x1 h = some (c, h1)) : qt_Met l g (yX12_back, cX12_back, 2, (some .int)) (d + 2) 0 [.ref (g.1 + 119), .int x1] h (some (.int c)) h1 := by
  refine qt_Met.of (plainFor_of_name (by decide)) (Nat.le_of_ble_eq_true rfl) ?_
  have G : qg_i (some (.int c)) h1 ((c, h1)) := ⟨rfl, rfl⟩
  unfold m_X12_back at E
  refine qt_iload_n 1 dX12_back_0 rfl rfl ?_
  refine qt_i2l dX12_back_1 ?_
  refine qt_lconst dX12_back_2 cl_0 ?_
  refine qt_ldc2 tb_1808 dX12_back_3 ?_
  obtain ⟨c6, h6, e6, E⟩ := qbn_el E
  refine qt_callSi (b2 := 0) [.long x1.toInt64, .long (0 : Int64), .long (3 : Int64)] (c_X12_in x1.toInt64 (0 : Int64) (3 : Int64) h e6) cv_RX12_161 rfl (Nat.le_of_ble_eq_true rfl) (Nat.le_of_ble_eq_true rfl) dX12_back_6 ?_
  refine qt_if_eq 21 dX12_back_9 (by decide) E (fun E => ?_) (fun E => ?_)
  · refine qt_iconst dX12_back_21 ci_m1 ?_
    exact qt_ireturn rfl (Nat.le_of_ble_eq_true rfl) dX12_back_22 E G
  · refine qt_aload_n 0 dX12_back_12 rfl rfl ?_
    refine qt_getS 166 (wl_119 h6) fe_RX12_154 rfl dX12_back_13 ?_
    refine qt_iload_n 1 dX12_back_16 rfl rfl ?_
    refine qt_zald (wl_166 h6) dX12_back_17 E (fun E => ?_)
    refine qt_if_ne 23 dX12_back_18 (by decide) E (fun E => ?_) (fun E => ?_)
    · refine qt_aload_n 0 dX12_back_23 rfl rfl ?_
      refine qt_iload_n 1 dX12_back_24 rfl rfl ?_
      refine qt_iconst dX12_back_25 ci_1 ?_
      obtain ⟨h26, e26, E⟩ := qbv_el E
      refine qt_callVv (b2 := 0) [.int x1, .int (1 : Int32)] (c_X12_carriesAll x1 (1 : Int32) h6 e26) cv_RX12_537 (wl_119 h6) rfl rfl rfl (Nat.le_of_ble_eq_true rfl) (Nat.le_of_ble_eq_true rfl) dX12_back_26 ?_
      refine qt_aload_n 0 dX12_back_29 rfl rfl ?_
      refine qt_getS 120 (wl_119 h26) fe_RX12_7 rfl dX12_back_30 ?_
      refine qt_iconst dX12_back_33 ci_5 ?_
      refine qt_iald (wl_120 h26) dX12_back_34 E (fun E => ?_)
      exact qt_ireturn rfl (Nat.le_of_ble_eq_true rfl) dX12_back_35 E G
    · refine qt_iconst dX12_back_21 ci_m1 ?_
      exact qt_ireturn rfl (Nat.le_of_ble_eq_true rfl) dX12_back_22 E G
