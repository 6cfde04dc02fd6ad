noncomputable def f_X12_laysOn_b167 (x1 : Int32) (h : qa_M) : Option ((Int32 × qa_M) ⊕ (Int32 × qa_M)) :=
  some (.inl (x1, h))
set_option maxRecDepth 20000 in
theorem s_X12_laysOn_b167 {l : Launch} {g : qa_G} {d : Nat} {rz : Option Value} {hz : qa_M} (x1 : Int32) (h : qa_M) {z : ((Int32 × qa_M) ⊕ (Int32 × qa_M))} (E : f_X12_laysOn_b167 x1 h = some z) (G : (Sum.elim (fun (sz : Int32 × qa_M) => qt_At l g (yX12_laysOn, cX12_laysOn, 3, (some .boolean)) (d + 3) 0 0 64 [(0, .ref (g.1 + 119)), (1, .int sz.1)] [] sz.2 rz hz) (qg_i rz hz)) z) : qt_At l g (yX12_laysOn, cX12_laysOn, 3, (some .boolean)) (d + 3) 0 0 167 [(0, .ref (g.1 + 119)), (1, .int x1)] [] h rz hz := by
  unfold f_X12_laysOn_b167 at E
  refine qt_goto 64 dX12_laysOn_167 (by decide) ?_
  cases E
  exact qt_sub _ [0, 1] rfl (G)
noncomputable def f_X12_laysOn_b166 (x1 : Int32) (s1 : Int32) (s2 : Int32) (h : qa_M) : Option ((Int32 × qa_M) ⊕ (Int32 × qa_M)) :=
  qck s1 4 (
  qbd (qw_I h 151 s1.toNatClampNeg s2) (fun h166 : qa_M =>
  f_X12_laysOn_b167 x1 h166))
set_option maxRecDepth 20000 in
theorem s_X12_laysOn_b166 {l : Launch} {g : qa_G} {d : Nat} {rz : Option Value} {hz : qa_M} (x1 : Int32) (s1 : Int32) (s2 : Int32) (h : qa_M) {z : ((Int32 × qa_M) ⊕ (Int32 × qa_M))} (E : f_X12_laysOn_b166 x1 s1 s2 h = some z) (G : (Sum.elim (fun (sz : Int32 × qa_M) => qt_At l g (yX12_laysOn, cX12_laysOn, 3, (some .boolean)) (d + 3) 0 0 64 [(0, .ref (g.1 + 119)), (1, .int sz.1)] [] sz.2 rz hz) (qg_i rz hz)) z) : qt_At l g (yX12_laysOn, cX12_laysOn, 3, (some .boolean)) (d + 3) 0 0 166 [(0, .ref (g.1 + 119)), (1, .int x1)] [.int s2, .int s1, .ref (g.1 + 151)] h rz hz := by
  unfold f_X12_laysOn_b166 at E
  refine qt_iast (wl_151 h) dX12_laysOn_166 E (fun h166 E => ?_)
  exact qt_sub _ [0, 1] rfl ((s_X12_laysOn_b167 x1 h166 E G))
noncomputable def f_X12_laysOn_b98 (x1 : Int32) (x2 : Int32) (h : qa_M) : Option ((Int32 × qa_M) ⊕ (Int32 × qa_M)) :=
  qck x1 4 (
  qbd (qw_I h 151 x1.toNatClampNeg x2) (fun h104 : qa_M =>
  if x2 = (36 : Int32) then (
   qbd (x1 + (-1 : Int32)) (fun v111 : Int32 =>
   f_X12_laysOn_b167 v111 h104))
  else (
   if x1 = ((h104.1 119 48) - (1 : Int32)) then (
    qup (some ((1 : Int32), h104)))
   else (
    qbd (x1 + (1 : Int32)) (fun v129 : Int32 =>
    qck v129 4 (
    qck (v129 - (1 : Int32)) 4 (
    if (h104.1 152 v129.toNatClampNeg) = (h104.1 152 (v129 - (1 : Int32)).toNatClampNeg) then (
     qck (v129 - (1 : Int32)) 4 (
     f_X12_laysOn_b166 v129 v129 (h104.1 151 (v129 - (1 : Int32)).toNatClampNeg) h104))
    else (
     f_X12_laysOn_b166 v129 v129 (-1 : Int32) h104))))))))
set_option maxRecDepth 20000 in
theorem s_X12_laysOn_b98 {l : Launch} {g : qa_G} {d : Nat} {rz : Option Value} {hz : qa_M} (x1 : Int32) (x2 : Int32) (h : qa_M) {z : ((Int32 × qa_M) ⊕ (Int32 × qa_M))} (E : f_X12_laysOn_b98 x1 x2 h = some z) (G : (Sum.elim (fun (sz : Int32 × qa_M) => qt_At l g (yX12_laysOn, cX12_laysOn, 3, (some .boolean)) (d + 3) 0 0 64 [(0, .ref (g.1 + 119)), (1, .int sz.1)] [] sz.2 rz hz) (qg_i rz hz)) z) : qt_At l g (yX12_laysOn, cX12_laysOn, 3, (some .boolean)) (d + 3) 0 0 98 [(0, .ref (g.1 + 119)), (1, .int x1), (2, .int x2)] [] h rz hz := by
  unfold f_X12_laysOn_b98 at E
  refine qt_aload_n 0 dX12_laysOn_98 rfl rfl ?_
  refine qt_getS 151 (wl_119 h) fe_RX12_109 rfl dX12_laysOn_99 ?_
  refine qt_iload_n 1 dX12_laysOn_102 rfl rfl ?_
  refine qt_iload_n 2 dX12_laysOn_103 rfl rfl ?_
  refine qt_iast (wl_151 h) dX12_laysOn_104 E (fun h104 E => ?_)
  refine qt_iload_n 2 dX12_laysOn_105 rfl rfl ?_
  refine qt_bipush dX12_laysOn_106 cb_36 ?_
  refine qt_icmp_ne 117 dX12_laysOn_108 (by decide) E (fun E => ?_) (fun E => ?_)
  · refine qt_iload_n 1 dX12_laysOn_117 rfl rfl ?_
    refine qt_aload_n 0 dX12_laysOn_118 rfl rfl ?_
    refine qt_getI (wl_119 h104) fe_RX12_424 rfl dX12_laysOn_119 ?_
    refine qt_iconst dX12_laysOn_122 ci_1 ?_
    refine qt_isub dX12_laysOn_123 ?_
    refine qt_icmp_ne 129 dX12_laysOn_124 (by decide) E (fun E => ?_) (fun E => ?_)
    · refine qt_iinc 1 (fun v129 => [(1, .int v129), (0, .ref (g.1 + 119)), (2, .int x2)]) dX12_laysOn_129 rfl ci_1 (Nat.le_of_ble_eq_true rfl) (fun _ => rfl) E (fun v129 E => ?_)
      refine qt_aload_n 1 dX12_laysOn_132 rfl rfl ?_
      refine qt_getS 151 (wl_119 h104) fe_RX12_109 rfl dX12_laysOn_133 ?_
      refine qt_iload_n 0 dX12_laysOn_136 rfl rfl ?_
      refine qt_aload_n 1 dX12_laysOn_137 rfl rfl ?_
      refine qt_getS 152 (wl_119 h104) fe_RX12_112 rfl dX12_laysOn_138 ?_
      refine qt_iload_n 0 dX12_laysOn_141 rfl rfl ?_
      refine qt_iald (wl_152 h104) dX12_laysOn_142 E (fun E => ?_)
      refine qt_aload_n 1 dX12_laysOn_143 rfl rfl ?_
      refine qt_getS 152 (wl_119 h104) fe_RX12_112 rfl dX12_laysOn_144 ?_
      refine qt_iload_n 0 dX12_laysOn_147 rfl rfl ?_
      refine qt_iconst dX12_laysOn_148 ci_1 ?_
      refine qt_isub dX12_laysOn_149 ?_
      refine qt_iald (wl_152 h104) dX12_laysOn_150 E (fun E => ?_)
      refine qt_icmp_ne 165 dX12_laysOn_151 (by decide) E (fun E => ?_) (fun E => ?_)
      · refine qt_iconst dX12_laysOn_165 ci_m1 ?_
        exact qt_sub _ [1, 0] rfl ((s_X12_laysOn_b166 v129 v129 (-1 : Int32) h104 E G))
      · refine qt_aload_n 1 dX12_laysOn_154 rfl rfl ?_
        refine qt_getS 151 (wl_119 h104) fe_RX12_109 rfl dX12_laysOn_155 ?_
        refine qt_iload_n 0 dX12_laysOn_158 rfl rfl ?_
        refine qt_iconst dX12_laysOn_159 ci_1 ?_
        refine qt_isub dX12_laysOn_160 ?_
        refine qt_iald (wl_151 h104) dX12_laysOn_161 E (fun E => ?_)
        refine qt_goto 166 dX12_laysOn_162 (by decide) ?_
        exact qt_sub _ [1, 0] rfl ((s_X12_laysOn_b166 v129 v129 (h104.1 151 (v129 - (1 : Int32)).toNatClampNeg) h104 E G))
    · refine qt_iconst dX12_laysOn_127 ci_1 ?_
      obtain ⟨z0_, E, G⟩ := qup_g E G
      exact qt_zreturn rfl (Or.inr rfl) (Nat.le_of_ble_eq_true rfl) dX12_laysOn_128 E G
  · refine qt_iinc 1 (fun v111 => [(1, .int v111), (0, .ref (g.1 + 119)), (2, .int x2)]) dX12_laysOn_111 rfl ci_m1 (Nat.le_of_ble_eq_true rfl) (fun _ => rfl) E (fun v111 E => ?_)
    refine qt_goto 167 dX12_laysOn_114 (by decide) ?_
    exact qt_sub _ [1, 0] rfl ((s_X12_laysOn_b167 v111 h104 E G))
noncomputable def f_X12_laysOn_b77 (x1 : Int32) (x2 : Int32) (h : qa_M) : Option ((Int32 × Int32 × qa_M) ⊕ ((Int32 × qa_M) ⊕ (Int32 × qa_M))) :=
  if (36 : Int32) ≤ x2 then (
   qup (f_X12_laysOn_b98 x1 x2 h))
  else (
   qbn (m_X12_mayStand x1 x2 h) (fun (c86 : Int32) (h86 : qa_M) =>
   if c86 = 0 then (
    qbd (x2 + (1 : Int32)) (fun v92 : Int32 =>
    some (.inl (x1, v92, h86))))
   else (
    qup (f_X12_laysOn_b98 x1 x2 h86))))
set_option maxRecDepth 20000 in
theorem s_X12_laysOn_b77 {l : Launch} {g : qa_G} {d : Nat} {rz : Option Value} {hz : qa_M} (x1 : Int32) (x2 : Int32) (h : qa_M) {z : ((Int32 × Int32 × qa_M) ⊕ ((Int32 × qa_M) ⊕ (Int32 × qa_M)))} (E : f_X12_laysOn_b77 x1 x2 h = some z) (G : (Sum.elim (fun (sz : Int32 × Int32 × qa_M) => qt_At l g (yX12_laysOn, cX12_laysOn, 3, (some .boolean)) (d + 3) 0 0 77 [(0, .ref (g.1 + 119)), (1, .int sz.1), (2, .int sz.2.1)] [] sz.2.2 rz hz) (Sum.elim (fun (sz : Int32 × qa_M) => qt_At l g (yX12_laysOn, cX12_laysOn, 3, (some .boolean)) (d + 3) 0 0 64 [(0, .ref (g.1 + 119)), (1, .int sz.1)] [] sz.2 rz hz) (qg_i rz hz))) z) : qt_At l g (yX12_laysOn, cX12_laysOn, 3, (some .boolean)) (d + 3) 0 0 77 [(0, .ref (g.1 + 119)), (1, .int x1), (2, .int x2)] [] h rz hz := by
  unfold f_X12_laysOn_b77 at E
  refine qt_iload_n 2 dX12_laysOn_77 rfl rfl ?_
  refine qt_bipush dX12_laysOn_78 cb_36 ?_
  refine qt_icmp_ge 98 dX12_laysOn_80 (by decide) E (fun E => ?_) (fun E => ?_)
  · obtain ⟨z0_, E, G⟩ := qup_g E G
    exact qt_sub _ [0, 1, 2] rfl ((s_X12_laysOn_b98 x1 x2 h E G))
  · refine qt_aload_n 0 dX12_laysOn_83 rfl rfl ?_
    refine qt_iload_n 1 dX12_laysOn_84 rfl rfl ?_
    refine qt_iload_n 2 dX12_laysOn_85 rfl rfl ?_
    obtain ⟨c86, h86, e86, E⟩ := qbn_el E
    refine qt_callVi (b2 := 0) [.int x1, .int x2] (c_X12_mayStand x1 x2 h e86) cv_RX12_434 (wl_119 h) rfl rfl rfl (Nat.le_of_ble_eq_true rfl) (Nat.le_of_ble_eq_true rfl) dX12_laysOn_86 ?_
    refine qt_if_ne 98 dX12_laysOn_89 (by decide) E (fun E => ?_) (fun E => ?_)
    · obtain ⟨z0_, E, G⟩ := qup_g E G
      exact qt_sub _ [0, 1, 2] rfl ((s_X12_laysOn_b98 x1 x2 h86 E G))
    · refine qt_iinc 2 (fun v92 => [(2, .int v92), (0, .ref (g.1 + 119)), (1, .int x1)]) dX12_laysOn_92 rfl ci_1 (Nat.le_of_ble_eq_true rfl) (fun _ => rfl) E (fun v92 E => ?_)
      refine qt_goto 77 dX12_laysOn_95 (by decide) ?_
      cases E
      exact qt_sub _ [1, 2, 0] rfl (G)
noncomputable def f_X12_laysOn_b77_loop (x1 : Int32) (x2 : Int32) (h : qa_M) : Option ((Int32 × qa_M) ⊕ (Int32 × qa_M)) := qlp (fun sz : Int32 × Int32 × qa_M => f_X12_laysOn_b77 sz.1 sz.2.1 sz.2.2) (x1, x2, h)
theorem s_X12_laysOn_b77_loop {l : Launch} {g : qa_G} {d : Nat} {rz : Option Value} {hz : qa_M} (x1 : Int32) (x2 : Int32) (h : qa_M) {z : ((Int32 × qa_M) ⊕ (Int32 × qa_M))} (E : f_X12_laysOn_b77_loop x1 x2 h = some z) (G : (Sum.elim (fun (sz : Int32 × qa_M) => qt_At l g (yX12_laysOn, cX12_laysOn, 3, (some .boolean)) (d + 3) 0 0 64 [(0, .ref (g.1 + 119)), (1, .int sz.1)] [] sz.2 rz hz) (qg_i rz hz)) z) : qt_At l g (yX12_laysOn, cX12_laysOn, 3, (some .boolean)) (d + 3) 0 0 77 [(0, .ref (g.1 + 119)), (1, .int x1), (2, .int x2)] [] h rz hz :=
  qlp_ind (fun sz : Int32 × Int32 × qa_M => qt_At l g (yX12_laysOn, cX12_laysOn, 3, (some .boolean)) (d + 3) 0 0 77 [(0, .ref (g.1 + 119)), (1, .int sz.1), (2, .int sz.2.1)] [] sz.2.2 rz hz) (fun sz E => s_X12_laysOn_b77 sz.1 sz.2.1 sz.2.2 E G) (fun sz sz2 E ih => s_X12_laysOn_b77 sz.1 sz.2.1 sz.2.2 E ih) (x1, x2, h) E
noncomputable def f_X12_laysOn_b64 (x1 : Int32) (h : qa_M) : Option ((Int32 × qa_M) ⊕ (Int32 × qa_M)) :=
  if x1 < 0 then (
   qup (some ((0 : Int32), h)))
  else (
   qck x1 4 (
   qbd ((h.1 151 x1.toNatClampNeg) + (1 : Int32)) (fun v76 : Int32 =>
   f_X12_laysOn_b77_loop x1 v76 h)))
set_option maxRecDepth 20000 in
theorem s_X12_laysOn_b64 {l : Launch} {g : qa_G} {d : Nat} {rz : Option Value} {hz : qa_M} (x1 : Int32) (h : qa_M) {z : ((Int32 × qa_M) ⊕ (Int32 × qa_M))} (E : f_X12_laysOn_b64 x1 h = some z) (G : (Sum.elim (fun (sz : Int32 × qa_M) => qt_At l g (yX12_laysOn, cX12_laysOn, 3, (some .boolean)) (d + 3) 0 0 64 [(0, .ref (g.1 + 119)), (1, .int sz.1)] [] sz.2 rz hz) (qg_i rz hz)) z) : qt_At l g (yX12_laysOn, cX12_laysOn, 3, (some .boolean)) (d + 3) 0 0 64 [(0, .ref (g.1 + 119)), (1, .int x1)] [] h rz hz := by
  unfold f_X12_laysOn_b64 at E
  refine qt_iload_n 1 dX12_laysOn_64 rfl rfl ?_
  refine qt_if_lt 170 dX12_laysOn_65 (by decide) E (fun E => ?_) (fun E => ?_)
  · refine qt_iconst dX12_laysOn_170 ci_0 ?_
    obtain ⟨z0_, E, G⟩ := qup_g E G
    exact qt_zreturn rfl (Or.inl rfl) (Nat.le_of_ble_eq_true rfl) dX12_laysOn_171 E G
  · refine qt_aload_n 0 dX12_laysOn_68 rfl rfl ?_
    refine qt_getS 151 (wl_119 h) fe_RX12_109 rfl dX12_laysOn_69 ?_
    refine qt_iload_n 1 dX12_laysOn_72 rfl rfl ?_
    refine qt_iald (wl_151 h) dX12_laysOn_73 E (fun E => ?_)
    refine qt_iconst dX12_laysOn_74 ci_1 ?_
    refine qt_iadd dX12_laysOn_75 ?_
    refine qt_istore_n (fun v76 => [(2, .int v76), (0, .ref (g.1 + 119)), (1, .int x1)]) dX12_laysOn_76 rfl (Nat.le_of_ble_eq_true rfl) (fun _ => rfl) E (fun v76 E => ?_)
    exact qt_sub _ [1, 2, 0] rfl ((s_X12_laysOn_b77_loop x1 v76 h E G))
noncomputable def f_X12_laysOn_b64_loop (x1 : Int32) (h : qa_M) : Option (Int32 × qa_M) := qlp (fun sz : Int32 × qa_M => f_X12_laysOn_b64 sz.1 sz.2) (x1, h)
theorem s_X12_laysOn_b64_loop {l : Launch} {g : qa_G} {d : Nat} {rz : Option Value} {hz : qa_M} (x1 : Int32) (h : qa_M) {z : (Int32 × qa_M)} (E : f_X12_laysOn_b64_loop x1 h = some z) (G : (qg_i rz hz) z) : qt_At l g (yX12_laysOn, cX12_laysOn, 3, (some .boolean)) (d + 3) 0 0 64 [(0, .ref (g.1 + 119)), (1, .int x1)] [] h rz hz :=
  qlp_ind (fun sz : Int32 × qa_M => qt_At l g (yX12_laysOn, cX12_laysOn, 3, (some .boolean)) (d + 3) 0 0 64 [(0, .ref (g.1 + 119)), (1, .int sz.1)] [] sz.2 rz hz) (fun sz E => s_X12_laysOn_b64 sz.1 sz.2 E G) (fun sz sz2 E ih => s_X12_laysOn_b64 sz.1 sz.2 E ih) (x1, h) E
noncomputable def f_X12_laysOn_b59 (x1 : Int32) (h : qa_M) : Option (Int32 × qa_M) :=
  qbd (qw_I h 119 49 (1 : Int32)) (fun h61 : qa_M =>
  f_X12_laysOn_b64_loop x1 h61)
set_option maxRecDepth 20000 in
theorem s_X12_laysOn_b59 {l : Launch} {g : qa_G} {d : Nat} {rz : Option Value} {hz : qa_M} (x1 : Int32) (h : qa_M) {z : (Int32 × qa_M)} (E : f_X12_laysOn_b59 x1 h = some z) (G : (qg_i rz hz) z) : qt_At l g (yX12_laysOn, cX12_laysOn, 3, (some .boolean)) (d + 3) 0 0 59 [(0, .ref (g.1 + 119)), (1, .int x1)] [] h rz hz := by
  unfold f_X12_laysOn_b59 at E
  refine qt_aload_n 0 dX12_laysOn_59 rfl rfl ?_
  refine qt_iconst dX12_laysOn_60 ci_1 ?_
  refine qt_putI (wl_119 h) fd_RX12_430 rfl (qz_nar (Or.inr rfl)) (qz_fit (Or.inr rfl)) dX12_laysOn_61 E (fun h61 E => ?_)
  exact qt_sub _ [0, 1] rfl ((s_X12_laysOn_b64_loop x1 h61 E G))
noncomputable def f_X12_laysOn_b44 (s0 : Int32) (h : qa_M) : Option (Int32 × qa_M) :=
  qbd s0 (fun v44 : Int32 =>
  if (h.1 119 49) = 0 then (
   qck (0 : Int32) 4 (
   qbd (qw_I h 151 (0 : Int32).toNatClampNeg (-1 : Int32)) (fun h58 : qa_M =>
   f_X12_laysOn_b59 v44 h58)))
  else (
   f_X12_laysOn_b59 v44 h))
set_option maxRecDepth 20000 in
theorem s_X12_laysOn_b44 {l : Launch} {g : qa_G} {d : Nat} {rz : Option Value} {hz : qa_M} (s0 : Int32) (h : qa_M) {z : (Int32 × qa_M)} (E : f_X12_laysOn_b44 s0 h = some z) (G : (qg_i rz hz) z) : qt_At l g (yX12_laysOn, cX12_laysOn, 3, (some .boolean)) (d + 3) 0 0 44 [(0, .ref (g.1 + 119))] [.int s0] h rz hz := by
  unfold f_X12_laysOn_b44 at E
  refine qt_istore_n (fun v44 => [(1, .int v44), (0, .ref (g.1 + 119))]) dX12_laysOn_44 rfl (Nat.le_of_ble_eq_true rfl) (fun _ => rfl) E (fun v44 E => ?_)
  refine qt_aload_n 1 dX12_laysOn_45 rfl rfl ?_
  refine qt_getI (wl_119 h) fe_RX12_430 rfl dX12_laysOn_46 ?_
  refine qt_if_ne 59 dX12_laysOn_49 (by decide) E (fun E => ?_) (fun E => ?_)
  · exact qt_sub _ [1, 0] rfl ((s_X12_laysOn_b59 v44 h E G))
  · refine qt_aload_n 1 dX12_laysOn_52 rfl rfl ?_
    refine qt_getS 151 (wl_119 h) fe_RX12_109 rfl dX12_laysOn_53 ?_
    refine qt_iconst dX12_laysOn_56 ci_0 ?_
    refine qt_iconst dX12_laysOn_57 ci_m1 ?_
    refine qt_iast (wl_151 h) dX12_laysOn_58 E (fun h58 E => ?_)
    exact qt_sub _ [1, 0] rfl ((s_X12_laysOn_b59 v44 h58 E G))
noncomputable def f_X12_laysOn_b19 (s0 : Int32) (h : qa_M) : Option (Int32 × qa_M) :=
  qbd s0 (fun v19 : Int32 =>
  qbd (qw_I h 119 49 (1 : Int32)) (fun h22 : qa_M =>
  qpr (v19 = 0 ∨ v19 = 1) (
  some (v19, h22))))
set_option maxRecDepth 20000 in
theorem s_X12_laysOn_b19 {l : Launch} {g : qa_G} {d : Nat} {rz : Option Value} {hz : qa_M} (s0 : Int32) (h : qa_M) {z : (Int32 × qa_M)} (E : f_X12_laysOn_b19 s0 h = some z) (G : (qg_i rz hz) z) : qt_At l g (yX12_laysOn, cX12_laysOn, 3, (some .boolean)) (d + 3) 0 0 19 [(0, .ref (g.1 + 119))] [.int s0] h rz hz := by
  unfold f_X12_laysOn_b19 at E
  refine qt_istore_n (fun v19 => [(1, .int v19), (0, .ref (g.1 + 119))]) dX12_laysOn_19 rfl (Nat.le_of_ble_eq_true rfl) (fun _ => rfl) E (fun v19 E => ?_)
  refine qt_aload_n 1 dX12_laysOn_20 rfl rfl ?_
  refine qt_iconst dX12_laysOn_21 ci_1 ?_
  refine qt_putI (wl_119 h) fd_RX12_430 rfl (qz_nar (Or.inr rfl)) (qz_fit (Or.inr rfl)) dX12_laysOn_22 E (fun h22 E => ?_)
  refine qt_iload_n 0 dX12_laysOn_25 rfl rfl ?_
  obtain ⟨z26, E⟩ := qpr_el E
  exact qt_zreturn rfl z26 (Nat.le_of_ble_eq_true rfl) dX12_laysOn_26 E G
noncomputable def m_X12_laysOn (h : qa_M) : Option (Int32 × qa_M) :=
  if (h.1 119 48) = 0 then (
   if (h.1 119 49) = 0 then (
    f_X12_laysOn_b19 (1 : Int32) h)
   else (
    f_X12_laysOn_b19 (0 : Int32) h))
  else (
   if (h.1 119 49) = 0 then (
    f_X12_laysOn_b44 (0 : Int32) h)
   else (
    f_X12_laysOn_b44 ((h.1 119 48) - (1 : Int32)) h))
set_option maxRecDepth 20000 in
theorem c_X12_laysOn {l : Launch} {g : qa_G} {d : Nat} (h : qa_M) {c : Int32} {h1 : qa_M} (E : m_X12_laysOn h = some (c, h1)) : qt_Met l g (yX12_laysOn, cX12_laysOn, 3, (some .boolean)) (d + 3) 0 [.ref (g.1 + 119)] h (some (.int c)) h1 := by
  refine qt_Met.of (plainFor_of_name (by decide)) (Nat.le_of_ble_eq_true rfl) ?_
  have G : qg_i (some (.int c)) h1 ((c, h1)) := ⟨rfl, rfl⟩
  unfold m_X12_laysOn at E
  refine qt_aload_n 0 dX12_laysOn_0 rfl rfl ?_
  refine qt_getI (wl_119 h) fe_RX12_424 rfl dX12_laysOn_1 ?_
  refine qt_if_ne 27 dX12_laysOn_4 (by decide) E (fun E => ?_) (fun E => ?_)
  · refine qt_aload_n 0 dX12_laysOn_27 rfl rfl ?_
    refine qt_getI (wl_119 h) fe_RX12_430 rfl dX12_laysOn_28 ?_
    refine qt_if_eq 43 dX12_laysOn_31 (by decide) E (fun E => ?_) (fun E => ?_)
    · refine qt_iconst dX12_laysOn_43 ci_0 ?_
      exact qt_sub _ [0] rfl ((s_X12_laysOn_b44 (0 : Int32) h E G))
    · refine qt_aload_n 0 dX12_laysOn_34 rfl rfl ?_
      refine qt_getI (wl_119 h) fe_RX12_424 rfl dX12_laysOn_35 ?_
      refine qt_iconst dX12_laysOn_38 ci_1 ?_
      refine qt_isub dX12_laysOn_39 ?_
      refine qt_goto 44 dX12_laysOn_40 (by decide) ?_
      exact qt_sub _ [0] rfl ((s_X12_laysOn_b44 ((h.1 119 48) - (1 : Int32)) h E G))
  · refine qt_aload_n 0 dX12_laysOn_7 rfl rfl ?_
    refine qt_getI (wl_119 h) fe_RX12_430 rfl dX12_laysOn_8 ?_
    refine qt_if_ne 18 dX12_laysOn_11 (by decide) E (fun E => ?_) (fun E => ?_)
    · refine qt_iconst dX12_laysOn_18 ci_0 ?_
      exact qt_sub _ [0] rfl ((s_X12_laysOn_b19 (0 : Int32) h E G))
    · refine qt_iconst dX12_laysOn_14 ci_1 ?_
      refine qt_goto 19 dX12_laysOn_15 (by decide) ?_
      exact qt_sub _ [0] rfl ((s_X12_laysOn_b19 (1 : Int32) h E G))
noncomputable def f_X12_fitsNote_b59 (x1 : Int32) (x2 : Int32) (h : qa_M) : Option (Int32 × qa_M) :=
  qck x1 10 (
  if 0 ≤ (h.1 131 x1.toNatClampNeg) then (
   qck x1 10 (
   if (h.1 131 x1.toNatClampNeg) < x2 then (
    some ((0 : Int32), h))
   else (
    some ((1 : Int32), h))))
  else (
   if x2 ≤ 0 then (
    some ((0 : Int32), h))
   else (
    some ((1 : Int32), h))))
set_option maxRecDepth 20000 in
theorem s_X12_fitsNote_b59 {l : Launch} {g : qa_G} {d : Nat} {rz : Option Value} {hz : qa_M} (x1 : Int32) (x2 : Int32) (h : qa_M) {z : (Int32 × qa_M)} (E : f_X12_fitsNote_b59 x1 x2 h = some z) (G : (qg_i rz hz) z) : qt_At l g (yX12_fitsNote, cX12_fitsNote, 4, (some .boolean)) (d + 1) 0 0 59 [(0, .ref (g.1 + 119)), (1, .int x1), (2, .int x2)] [] h rz hz := by
  unfold f_X12_fitsNote_b59 at E
  refine qt_aload_n 0 dX12_fitsNote_59 rfl rfl ?_
  refine qt_getS 131 (wl_119 h) fe_RX12_43 rfl dX12_fitsNote_60 ?_
  refine qt_iload_n 1 dX12_fitsNote_63 rfl rfl ?_
  refine qt_iald (wl_131 h) dX12_fitsNote_64 E (fun E => ?_)
  refine qt_if_ge 80 dX12_fitsNote_65 (by decide) E (fun E => ?_) (fun E => ?_)
  · refine qt_iload_n 2 dX12_fitsNote_80 rfl rfl ?_
    refine qt_aload_n 0 dX12_fitsNote_81 rfl rfl ?_
    refine qt_getS 131 (wl_119 h) fe_RX12_43 rfl dX12_fitsNote_82 ?_
    refine qt_iload_n 1 dX12_fitsNote_85 rfl rfl ?_
    refine qt_iald (wl_131 h) dX12_fitsNote_86 E (fun E => ?_)
    refine qt_icmp_gt 94 dX12_fitsNote_87 (by decide) E (fun E => ?_) (fun E => ?_)
    · refine qt_iconst dX12_fitsNote_94 ci_0 ?_
      exact qt_zreturn rfl (Or.inl rfl) (Nat.le_of_ble_eq_true rfl) dX12_fitsNote_95 E G
    · refine qt_iconst dX12_fitsNote_90 ci_1 ?_
      refine qt_goto 95 dX12_fitsNote_91 (by decide) ?_
      exact qt_zreturn rfl (Or.inr rfl) (Nat.le_of_ble_eq_true rfl) dX12_fitsNote_95 E G
  · refine qt_iload_n 2 dX12_fitsNote_68 rfl rfl ?_
    refine qt_if_le 76 dX12_fitsNote_69 (by decide) E (fun E => ?_) (fun E => ?_)
    · refine qt_iconst dX12_fitsNote_76 ci_0 ?_
      refine qt_goto 95 dX12_fitsNote_77 (by decide) ?_
      exact qt_zreturn rfl (Or.inl rfl) (Nat.le_of_ble_eq_true rfl) dX12_fitsNote_95 E G
    · refine qt_iconst dX12_fitsNote_72 ci_1 ?_
      refine qt_goto 95 dX12_fitsNote_73 (by decide) ?_
      exact qt_zreturn rfl (Or.inr rfl) (Nat.le_of_ble_eq_true rfl) dX12_fitsNote_95 E G
noncomputable def f_X12_fitsNote_b51 (x1 : Int32) (x3 : Int32) (s0 : Int32) (s1 : Int32) (h : qa_M) : Option ((Int32 × Int32 × Int32 × qa_M) ⊕ (Int32 × qa_M)) :=
  qbd (s0 + s1) (fun v52 : Int32 =>
  qbd (x3 + (1 : Int32)) (fun v53 : Int32 =>
  some (.inl (x1, v52, v53, h))))
set_option maxRecDepth 20000 in
theorem s_X12_fitsNote_b51 {l : Launch} {g : qa_G} {d : Nat} {rz : Option Value} {hz : qa_M} (x1 : Int32) (x3 : Int32) (s0 : Int32) (s1 : Int32) (h : qa_M) {z : ((Int32 × Int32 × Int32 × qa_M) ⊕ (Int32 × qa_M))} (E : f_X12_fitsNote_b51 x1 x3 s0 s1 h = some z) (G : (Sum.elim (fun (sz : Int32 × Int32 × Int32 × qa_M) => qt_At l g (yX12_fitsNote, cX12_fitsNote, 4, (some .boolean)) (d + 1) 0 0 4 [(0, .ref (g.1 + 119)), (1, .int sz.1), (2, .int sz.2.1), (3, .int sz.2.2.1)] [] sz.2.2.2 rz hz) (qg_i rz hz)) z) : qt_At l g (yX12_fitsNote, cX12_fitsNote, 4, (some .boolean)) (d + 1) 0 0 51 [(0, .ref (g.1 + 119)), (1, .int x1), (3, .int x3)] [.int s1, .int s0] h rz hz := by
  unfold f_X12_fitsNote_b51 at E
  refine qt_iadd dX12_fitsNote_51 ?_
  refine qt_istore_n (fun v52 => [(2, .int v52), (0, .ref (g.1 + 119)), (1, .int x1), (3, .int x3)]) dX12_fitsNote_52 rfl (Nat.le_of_ble_eq_true rfl) (fun _ => rfl) E (fun v52 E => ?_)
  refine qt_iinc 3 (fun v53 => [(3, .int v53), (2, .int v52), (0, .ref (g.1 + 119)), (1, .int x1)]) dX12_fitsNote_53 rfl ci_1 (Nat.le_of_ble_eq_true rfl) (fun _ => rfl) E (fun v53 E => ?_)
  refine qt_goto 4 dX12_fitsNote_56 (by decide) ?_
  cases E
  exact qt_sub _ [2, 3, 1, 0] rfl (G)
noncomputable def f_X12_fitsNote_b50 (x1 : Int32) (x3 : Int32) (s0 : Int32) (h : qa_M) : Option ((Int32 × Int32 × Int32 × qa_M) ⊕ (Int32 × qa_M)) :=
  f_X12_fitsNote_b51 x1 x3 s0 (0 : Int32) h
set_option maxRecDepth 20000 in
theorem s_X12_fitsNote_b50 {l : Launch} {g : qa_G} {d : Nat} {rz : Option Value} {hz : qa_M} (x1 : Int32) (x3 : Int32) (s0 : Int32) (h : qa_M) {z : ((Int32 × Int32 × Int32 × qa_M) ⊕ (Int32 × qa_M))} (E : f_X12_fitsNote_b50 x1 x3 s0 h = some z) (G : (Sum.elim (fun (sz : Int32 × Int32 × Int32 × qa_M) => qt_At l g (yX12_fitsNote, cX12_fitsNote, 4, (some .boolean)) (d + 1) 0 0 4 [(0, .ref (g.1 + 119)), (1, .int sz.1), (2, .int sz.2.1), (3, .int sz.2.2.1)] [] sz.2.2.2 rz hz) (qg_i rz hz)) z) : qt_At l g (yX12_fitsNote, cX12_fitsNote, 4, (some .boolean)) (d + 1) 0 0 50 [(0, .ref (g.1 + 119)), (1, .int x1), (3, .int x3)] [.int s0] h rz hz := by
  unfold f_X12_fitsNote_b50 at E
  refine qt_iconst dX12_fitsNote_50 ci_0 ?_
  exact qt_sub _ [0, 1, 2] rfl ((s_X12_fitsNote_b51 x1 x3 s0 (0 : Int32) h E G))
noncomputable def f_X12_fitsNote_b4 (x1 : Int32) (x2 : Int32) (x3 : Int32) (h : qa_M) : Option ((Int32 × Int32 × Int32 × qa_M) ⊕ (Int32 × qa_M)) :=
  if (h.1 119 48) ≤ x3 then (
   qup (f_X12_fitsNote_b59 x1 x2 h))
  else (
   qck x3 4 (
   qck x1 10 (
   if (h.1 152 x3.toNatClampNeg) = (h.1 130 x1.toNatClampNeg) then (
    qck x1 10 (
    qck x3 4 (
    qbn (m_X12_has (h.2.1 155 x1.toNatClampNeg) (h.1 151 x3.toNatClampNeg) h) (fun (c40 : Int32) (h40 : qa_M) =>
    if c40 = 0 then (
     f_X12_fitsNote_b50 x1 x3 x2 h40)
    else (
     f_X12_fitsNote_b51 x1 x3 x2 (1 : Int32) h40)))))
   else (
    f_X12_fitsNote_b50 x1 x3 x2 h))))
set_option maxRecDepth 20000 in
theorem s_X12_fitsNote_b4 {l : Launch} {g : qa_G} {d : Nat} {rz : Option Value} {hz : qa_M} (x1 : Int32) (x2 : Int32) (x3 : Int32) (h : qa_M) {z : ((Int32 × Int32 × Int32 × qa_M) ⊕ (Int32 × qa_M))} (E : f_X12_fitsNote_b4 x1 x2 x3 h = some z) (G : (Sum.elim (fun (sz : Int32 × Int32 × Int32 × qa_M) => qt_At l g (yX12_fitsNote, cX12_fitsNote, 4, (some .boolean)) (d + 1) 0 0 4 [(0, .ref (g.1 + 119)), (1, .int sz.1), (2, .int sz.2.1), (3, .int sz.2.2.1)] [] sz.2.2.2 rz hz) (qg_i rz hz)) z) : qt_At l g (yX12_fitsNote, cX12_fitsNote, 4, (some .boolean)) (d + 1) 0 0 4 [(0, .ref (g.1 + 119)), (1, .int x1), (2, .int x2), (3, .int x3)] [] h rz hz := by
  unfold f_X12_fitsNote_b4 at E
  refine qt_iload_n 3 dX12_fitsNote_4 rfl rfl ?_
  refine qt_aload_n 0 dX12_fitsNote_5 rfl rfl ?_
  refine qt_getI (wl_119 h) fe_RX12_424 rfl dX12_fitsNote_6 ?_
  refine qt_icmp_ge 59 dX12_fitsNote_9 (by decide) E (fun E => ?_) (fun E => ?_)
  · obtain ⟨z0_, E, G⟩ := qup_g E G
    exact qt_sub _ [0, 1, 2] rfl ((s_X12_fitsNote_b59 x1 x2 h E G))
  · refine qt_iload_n 2 dX12_fitsNote_12 rfl rfl ?_
    refine qt_aload_n 0 dX12_fitsNote_13 rfl rfl ?_
    refine qt_getS 152 (wl_119 h) fe_RX12_112 rfl dX12_fitsNote_14 ?_
    refine qt_iload_n 3 dX12_fitsNote_17 rfl rfl ?_
    refine qt_iald (wl_152 h) dX12_fitsNote_18 E (fun E => ?_)
    refine qt_aload_n 0 dX12_fitsNote_19 rfl rfl ?_
    refine qt_getS 130 (wl_119 h) fe_RX12_40 rfl dX12_fitsNote_20 ?_
    refine qt_iload_n 1 dX12_fitsNote_23 rfl rfl ?_
    refine qt_iald (wl_130 h) dX12_fitsNote_24 E (fun E => ?_)
    refine qt_icmp_ne 50 dX12_fitsNote_25 (by decide) E (fun E => ?_) (fun E => ?_)
    · exact qt_sub _ [0, 1, 3] rfl ((s_X12_fitsNote_b50 x1 x3 x2 h E G))
    · refine qt_aload_n 0 dX12_fitsNote_28 rfl rfl ?_
      refine qt_getS 155 (wl_119 h) fe_RX12_121 rfl dX12_fitsNote_29 ?_
      refine qt_iload_n 1 dX12_fitsNote_32 rfl rfl ?_
      refine qt_lald (wl_155 h) dX12_fitsNote_33 E (fun E => ?_)
      refine qt_aload_n 0 dX12_fitsNote_34 rfl rfl ?_
      refine qt_getS 151 (wl_119 h) fe_RX12_109 rfl dX12_fitsNote_35 ?_
      refine qt_iload_n 3 dX12_fitsNote_38 rfl rfl ?_
      refine qt_iald (wl_151 h) dX12_fitsNote_39 E (fun E => ?_)
      obtain ⟨c40, h40, e40, E⟩ := qbn_el E
      refine qt_callSi (b2 := 0) [.long (h.2.1 155 x1.toNatClampNeg), .int (h.1 151 x3.toNatClampNeg)] (c_X12_has (h.2.1 155 x1.toNatClampNeg) (h.1 151 x3.toNatClampNeg) h e40) cv_RX12_211 rfl (Nat.le_of_ble_eq_true rfl) (Nat.le_of_ble_eq_true rfl) dX12_fitsNote_40 ?_
      refine qt_if_eq 50 dX12_fitsNote_43 (by decide) E (fun E => ?_) (fun E => ?_)
      · exact qt_sub _ [0, 1, 3] rfl ((s_X12_fitsNote_b50 x1 x3 x2 h40 E G))
      · refine qt_iconst dX12_fitsNote_46 ci_1 ?_
        refine qt_goto 51 dX12_fitsNote_47 (by decide) ?_
        exact qt_sub _ [0, 1, 3] rfl ((s_X12_fitsNote_b51 x1 x3 x2 (1 : Int32) h40 E G))
noncomputable def f_X12_fitsNote_b4_loop (x1 : Int32) (x2 : Int32) (x3 : Int32) (h : qa_M) : Option (Int32 × qa_M) := qlp (fun sz : Int32 × Int32 × Int32 × qa_M => f_X12_fitsNote_b4 sz.1 sz.2.1 sz.2.2.1 sz.2.2.2) (x1, x2, x3, h)
theorem s_X12_fitsNote_b4_loop {l : Launch} {g : qa_G} {d : Nat} {rz : Option Value} {hz : qa_M} (x1 : Int32) (x2 : Int32) (x3 : Int32) (h : qa_M) {z : (Int32 × qa_M)} (E : f_X12_fitsNote_b4_loop x1 x2 x3 h = some z) (G : (qg_i rz hz) z) : qt_At l g (yX12_fitsNote, cX12_fitsNote, 4, (some .boolean)) (d + 1) 0 0 4 [(0, .ref (g.1 + 119)), (1, .int x1), (2, .int x2), (3, .int x3)] [] h rz hz :=
  qlp_ind (fun sz : Int32 × Int32 × Int32 × qa_M => qt_At l g (yX12_fitsNote, cX12_fitsNote, 4, (some .boolean)) (d + 1) 0 0 4 [(0, .ref (g.1 + 119)), (1, .int sz.1), (2, .int sz.2.1), (3, .int sz.2.2.1)] [] sz.2.2.2 rz hz) (fun sz E => s_X12_fitsNote_b4 sz.1 sz.2.1 sz.2.2.1 sz.2.2.2 E G) (fun sz sz2 E ih => s_X12_fitsNote_b4 sz.1 sz.2.1 sz.2.2.1 sz.2.2.2 E ih) (x1, x2, x3, h) E
noncomputable def m_X12_fitsNote (x1 : Int32) (h : qa_M) : Option (Int32 × qa_M) :=
  qbd (0 : Int32) (fun v1 : Int32 =>
  qbd (0 : Int32) (fun v3 : Int32 =>
  f_X12_fitsNote_b4_loop x1 v1 v3 h))
set_option maxRecDepth 20000 in
theorem c_X12_fitsNote {l : Launch} {g : qa_G} {d : Nat} (x1 : Int32) (h : qa_M) {c : Int32} {h1 : qa_M} (E : m_X12_fitsNote x1 h = some (c, h1)) : qt_Met l g (yX12_fitsNote, cX12_fitsNote, 4, (some .boolean)) (d + 1) 0 [.ref (g.1 + 119), .int x1] h (some (.int c)) h1 := by
  refine qt_Met.of (plainFor_of_name (by decide)) (Nat.le_of_ble_eq_true rfl) ?_
  have G : qg_i (some (.int c)) h1 ((c, h1)) := ⟨rfl, rfl⟩
  unfold m_X12_fitsNote at E
  refine qt_iconst dX12_fitsNote_0 ci_0 ?_
  refine qt_istore_n (fun v1 => [(2, .int v1), (0, .ref (g.1 + 119)), (1, .int x1)]) dX12_fitsNote_1 rfl (Nat.le_of_ble_eq_true rfl) (fun _ => rfl) E (fun v1 E => ?_)
  refine qt_iconst dX12_fitsNote_2 ci_0 ?_
  refine qt_istore_n (fun v3 => [(3, .int v3), (2, .int v1), (0, .ref (g.1 + 119)), (1, .int x1)]) dX12_fitsNote_3 rfl (Nat.le_of_ble_eq_true rfl) (fun _ => rfl) E (fun v3 E => ?_)
  exact qt_sub _ [2, 3, 1, 0] rfl ((s_X12_fitsNote_b4_loop x1 v1 v3 h E G))
noncomputable def f_X12_fitsOf_b39 (x1 : Int32) (x3 : Int32) (s0 : Int32) (s1 : Int32) (h : qa_M) : Option ((Int32 × Int32 × Int32 × qa_M) ⊕ (Int32 × qa_M)) :=
  qbd (s0 ||| s1) (fun v40 : Int32 =>
  qbd (x3 + (1 : Int32)) (fun v41 : Int32 =>
  some (.inl (x1, v40, v41, h))))
set_option maxRecDepth 20000 in
theorem s_X12_fitsOf_b39 {l : Launch} {g : qa_G} {d : Nat} {rz : Option Value} {hz : qa_M} (x1 : Int32) (x3 : Int32) (s0 : Int32) (s1 : Int32) (h : qa_M) {z : ((Int32 × Int32 × Int32 × qa_M) ⊕ (Int32 × qa_M))} (E : f_X12_fitsOf_b39 x1 x3 s0 s1 h = some z) (G : (Sum.elim (fun (sz : Int32 × Int32 × Int32 × qa_M) => qt_At l g (yX12_fitsOf, cX12_fitsOf, 4, (some .int)) (d + 2) 0 0 4 [(0, .ref (g.1 + 119)), (1, .int sz.1), (2, .int sz.2.1), (3, .int sz.2.2.1)] [] sz.2.2.2 rz hz) (qg_i rz hz)) z) : qt_At l g (yX12_fitsOf, cX12_fitsOf, 4, (some .int)) (d + 2) 0 0 39 [(0, .ref (g.1 + 119)), (1, .int x1), (3, .int x3)] [.int s1, .int s0] h rz hz := by
  unfold f_X12_fitsOf_b39 at E
  refine qt_ior dX12_fitsOf_39 ?_
  refine qt_istore_n (fun v40 => [(2, .int v40), (0, .ref (g.1 + 119)), (1, .int x1), (3, .int x3)]) dX12_fitsOf_40 rfl (Nat.le_of_ble_eq_true rfl) (fun _ => rfl) E (fun v40 E => ?_)
  refine qt_iinc 3 (fun v41 => [(3, .int v41), (2, .int v40), (0, .ref (g.1 + 119)), (1, .int x1)]) dX12_fitsOf_41 rfl ci_1 (Nat.le_of_ble_eq_true rfl) (fun _ => rfl) E (fun v41 E => ?_)
  refine qt_goto 4 dX12_fitsOf_44 (by decide) ?_
  cases E
  exact qt_sub _ [2, 3, 1, 0] rfl (G)
noncomputable def f_X12_fitsOf_b38 (x1 : Int32) (x3 : Int32) (s0 : Int32) (h : qa_M) : Option ((Int32 × Int32 × Int32 × qa_M) ⊕ (Int32 × qa_M)) :=
  f_X12_fitsOf_b39 x1 x3 s0 (0 : Int32) h
set_option maxRecDepth 20000 in
theorem s_X12_fitsOf_b38 {l : Launch} {g : qa_G} {d : Nat} {rz : Option Value} {hz : qa_M} (x1 : Int32) (x3 : Int32) (s0 : Int32) (h : qa_M) {z : ((Int32 × Int32 × Int32 × qa_M) ⊕ (Int32 × qa_M))} (E : f_X12_fitsOf_b38 x1 x3 s0 h = some z) (G : (Sum.elim (fun (sz : Int32 × Int32 × Int32 × qa_M) => qt_At l g (yX12_fitsOf, cX12_fitsOf, 4, (some .int)) (d + 2) 0 0 4 [(0, .ref (g.1 + 119)), (1, .int sz.1), (2, .int sz.2.1), (3, .int sz.2.2.1)] [] sz.2.2.2 rz hz) (qg_i rz hz)) z) : qt_At l g (yX12_fitsOf, cX12_fitsOf, 4, (some .int)) (d + 2) 0 0 38 [(0, .ref (g.1 + 119)), (1, .int x1), (3, .int x3)] [.int s0] h rz hz := by
  unfold f_X12_fitsOf_b38 at E
  refine qt_iconst dX12_fitsOf_38 ci_0 ?_
  exact qt_sub _ [0, 1, 2] rfl ((s_X12_fitsOf_b39 x1 x3 s0 (0 : Int32) h E G))
noncomputable def f_X12_fitsOf_b4 (x1 : Int32) (x2 : Int32) (x3 : Int32) (h : qa_M) : Option ((Int32 × Int32 × Int32 × qa_M) ⊕ (Int32 × qa_M)) :=
  qck (5 : Int32) 8 (
  if (h.1 120 (5 : Int32).toNatClampNeg) ≤ x3 then (
   qup (some (x2, h)))
  else (
   qbn (m_X12_has x1.toInt64 x3 h) (fun (c18 : Int32) (h18 : qa_M) =>
   if c18 = 0 then (
    f_X12_fitsOf_b38 x1 x3 x2 h18)
   else (
    qbn (m_X12_fitsNote x3 h18) (fun (c26 : Int32) (h26 : qa_M) =>
    if c26 = 0 then (
     f_X12_fitsOf_b38 x1 x3 x2 h26)
    else (
     f_X12_fitsOf_b39 x1 x3 x2 ((1 : Int32) <<< (x3 &&& 31)) h26))))))
set_option maxRecDepth 20000 in
theorem s_X12_fitsOf_b4 {l : Launch} {g : qa_G} {d : Nat} {rz : Option Value} {hz : qa_M} (x1 : Int32) (x2 : Int32) (x3 : Int32) (h : qa_M) {z : ((Int32 × Int32 × Int32 × qa_M) ⊕ (Int32 × qa_M))} (E : f_X12_fitsOf_b4 x1 x2 x3 h = some z) (G : (Sum.elim (fun (sz : Int32 × Int32 × Int32 × qa_M) => qt_At l g (yX12_fitsOf, cX12_fitsOf, 4, (some .int)) (d + 2) 0 0 4 [(0, .ref (g.1 + 119)), (1, .int sz.1), (2, .int sz.2.1), (3, .int sz.2.2.1)] [] sz.2.2.2 rz hz) (qg_i rz hz)) z) : qt_At l g (yX12_fitsOf, cX12_fitsOf, 4, (some .int)) (d + 2) 0 0 4 [(0, .ref (g.1 + 119)), (1, .int x1), (2, .int x2), (3, .int x3)] [] h rz hz := by
  unfold f_X12_fitsOf_b4 at E
  refine qt_iload_n 3 dX12_fitsOf_4 rfl rfl ?_
  refine qt_aload_n 0 dX12_fitsOf_5 rfl rfl ?_
  refine qt_getS 120 (wl_119 h) fe_RX12_7 rfl dX12_fitsOf_6 ?_
  refine qt_iconst dX12_fitsOf_9 ci_5 ?_
  refine qt_iald (wl_120 h) dX12_fitsOf_10 E (fun E => ?_)
  refine qt_icmp_ge 47 dX12_fitsOf_11 (by decide) E (fun E => ?_) (fun E => ?_)
  · refine qt_iload_n 2 dX12_fitsOf_47 rfl rfl ?_
    obtain ⟨z0_, E, G⟩ := qup_g E G
    exact qt_ireturn rfl (Nat.le_of_ble_eq_true rfl) dX12_fitsOf_48 E G
  · refine qt_iload_n 2 dX12_fitsOf_14 rfl rfl ?_
    refine qt_iload_n 1 dX12_fitsOf_15 rfl rfl ?_
    refine qt_i2l dX12_fitsOf_16 ?_
    refine qt_iload_n 3 dX12_fitsOf_17 rfl rfl ?_
    obtain ⟨c18, h18, e18, E⟩ := qbn_el E
    refine qt_callSi (b2 := 0) [.long x1.toInt64, .int x3] (c_X12_has x1.toInt64 x3 h e18) cv_RX12_211 rfl (Nat.le_of_ble_eq_true rfl) (Nat.le_of_ble_eq_true rfl) dX12_fitsOf_18 ?_
    refine qt_if_eq 38 dX12_fitsOf_21 (by decide) E (fun E => ?_) (fun E => ?_)
    · exact qt_sub _ [0, 1, 3] rfl ((s_X12_fitsOf_b38 x1 x3 x2 h18 E G))
    · refine qt_aload_n 0 dX12_fitsOf_24 rfl rfl ?_
      refine qt_iload_n 3 dX12_fitsOf_25 rfl rfl ?_
      obtain ⟨c26, h26, e26, E⟩ := qbn_el E
      refine qt_callVi (b2 := 0) [.int x3] (c_X12_fitsNote x3 h18 e26) cv_RX12_437 (wl_119 h18) rfl rfl rfl (Nat.le_of_ble_eq_true rfl) (Nat.le_of_ble_eq_true rfl) dX12_fitsOf_26 ?_
      refine qt_if_eq 38 dX12_fitsOf_29 (by decide) E (fun E => ?_) (fun E => ?_)
      · exact qt_sub _ [0, 1, 3] rfl ((s_X12_fitsOf_b38 x1 x3 x2 h26 E G))
      · refine qt_iconst dX12_fitsOf_32 ci_1 ?_
        refine qt_iload_n 3 dX12_fitsOf_33 rfl rfl ?_
        refine qt_ishl dX12_fitsOf_34 ?_
        refine qt_goto 39 dX12_fitsOf_35 (by decide) ?_
        exact qt_sub _ [0, 1, 3] rfl ((s_X12_fitsOf_b39 x1 x3 x2 ((1 : Int32) <<< (x3 &&& 31)) h26 E G))
noncomputable def f_X12_fitsOf_b4_loop (x1 : Int32) (x2 : Int32) (x3 : Int32) (h : qa_M) : Option (Int32 × qa_M) := qlp (fun sz : Int32 × Int32 × Int32 × qa_M => f_X12_fitsOf_b4 sz.1 sz.2.1 sz.2.2.1 sz.2.2.2) (x1, x2, x3, h)
theorem s_X12_fitsOf_b4_loop {l : Launch} {g : qa_G} {d : Nat} {rz : Option Value} {hz : qa_M} (x1 : Int32) (x2 : Int32) (x3 : Int32) (h : qa_M) {z : (Int32 × qa_M)} (E : f_X12_fitsOf_b4_loop x1 x2 x3 h = some z) (G : (qg_i rz hz) z) : qt_At l g (yX12_fitsOf, cX12_fitsOf, 4, (some .int)) (d + 2) 0 0 4 [(0, .ref (g.1 + 119)), (1, .int x1), (2, .int x2), (3, .int x3)] [] h rz hz :=
  qlp_ind (fun sz : Int32 × Int32 × Int32 × qa_M => qt_At l g (yX12_fitsOf, cX12_fitsOf, 4, (some .int)) (d + 2) 0 0 4 [(0, .ref (g.1 + 119)), (1, .int sz.1), (2, .int sz.2.1), (3, .int sz.2.2.1)] [] sz.2.2.2 rz hz) (fun sz E => s_X12_fitsOf_b4 sz.1 sz.2.1 sz.2.2.1 sz.2.2.2 E G) (fun sz sz2 E ih => s_X12_fitsOf_b4 sz.1 sz.2.1 sz.2.2.1 sz.2.2.2 E ih) (x1, x2, x3, h) E
noncomputable def m_X12_fitsOf (x1 : Int32) (h : qa_M) : Option (Int32 × qa_M) :=
  qbd (0 : Int32) (fun v1 : Int32 =>
  qbd (0 : Int32) (fun v3 : Int32 =>
  f_X12_fitsOf_b4_loop x1 v1 v3 h))
set_option maxRecDepth 20000 in
theorem c_X12_fitsOf {l : Launch} {g : qa_G} {d : Nat} (x1 : Int32) (h : qa_M) {c : Int32} {h1 : qa_M} (E : m_X12_fitsOf x1 h = some (c, h1)) : qt_Met l g (yX12_fitsOf, cX12_fitsOf, 4, (some .int)) (d + 2) 0 [.ref (g.1 + 119), .int x1] h (some (.int c)) h1 := by
  refine qt_Met.of (plainFor_of_name (by decide)) (Nat.le_of_ble_eq_true rfl) ?_
  have G : qg_i (some (.int c)) h1 ((c, h1)) := ⟨rfl, rfl⟩
  unfold m_X12_fitsOf at E
  refine qt_iconst dX12_fitsOf_0 ci_0 ?_
  refine qt_istore_n (fun v1 => [(2, .int v1), (0, .ref (g.1 + 119)), (1, .int x1)]) dX12_fitsOf_1 rfl (Nat.le_of_ble_eq_true rfl) (fun _ => rfl) E (fun v1 E => ?_)
  refine qt_iconst dX12_fitsOf_2 ci_0 ?_
  refine qt_istore_n (fun v3 => [(3, .int v3), (2, .int v1), (0, .ref (g.1 + 119)), (1, .int x1)]) dX12_fitsOf_3 rfl (Nat.le_of_ble_eq_true rfl) (fun _ => rfl) E (fun v3 E => ?_)
  exact qt_sub _ [2, 3, 1, 0] rfl ((s_X12_fitsOf_b4_loop x1 v1 v3 h E G))
noncomputable def f_X12_goesTo_b5 (x1 : Int32) (x2 : Int32) (h : qa_M) : Option ((Int32 × Int32 × qa_M) ⊕ (Int32 × qa_M)) :=
  if x2 = 0 then (
   qpr (x2 = 0 ∨ x2 = 1) (
   qup (some (x2, h))))
  else (
   qbn (m_X12_fitsOf x1 h) (fun (c11 : Int32) (h11 : qa_M) =>
   if c11 = x1 then (
    qpr (x2 = 0 ∨ x2 = 1) (
    qup (some (x2, h11))))
   else (
    qbn (m_X12_laysOn h11) (fun (c19 : Int32) (h19 : qa_M) =>
    qbd c19 (fun v22 : Int32 =>
    some (.inl (x1, v22, h19)))))))
set_option maxRecDepth 20000 in
theorem s_X12_goesTo_b5 {l : Launch} {g : qa_G} {d : Nat} {rz : Option Value} {hz : qa_M} (x1 : Int32) (x2 : Int32) (h : qa_M) {z : ((Int32 × Int32 × qa_M) ⊕ (Int32 × qa_M))} (E : f_X12_goesTo_b5 x1 x2 h = some z) (G : (Sum.elim (fun (sz : Int32 × Int32 × qa_M) => qt_At l g (yX12_goesTo, cX12_goesTo, 3, (some .boolean)) (d + 4) 0 0 5 [(0, .ref (g.1 + 119)), (1, .int sz.1), (2, .int sz.2.1)] [] sz.2.2 rz hz) (qg_i rz hz)) z) : qt_At l g (yX12_goesTo, cX12_goesTo, 3, (some .boolean)) (d + 4) 0 0 5 [(0, .ref (g.1 + 119)), (1, .int x1), (2, .int x2)] [] h rz hz := by
  unfold f_X12_goesTo_b5 at E
  refine qt_iload_n 2 dX12_goesTo_5 rfl rfl ?_
  refine qt_if_eq 26 dX12_goesTo_6 (by decide) E (fun E => ?_) (fun E => ?_)
  · refine qt_iload_n 2 dX12_goesTo_26 rfl rfl ?_
    obtain ⟨z27, E⟩ := qpr_el E
    obtain ⟨z0_, E, G⟩ := qup_g E G
    exact qt_zreturn rfl z27 (Nat.le_of_ble_eq_true rfl) dX12_goesTo_27 E G
  · refine qt_aload_n 0 dX12_goesTo_9 rfl rfl ?_
    refine qt_iload_n 1 dX12_goesTo_10 rfl rfl ?_
    obtain ⟨c11, h11, e11, E⟩ := qbn_el E
    refine qt_callVi (b2 := 0) [.int x1] (c_X12_fitsOf x1 h e11) cv_RX12_443 (wl_119 h) rfl rfl rfl (Nat.le_of_ble_eq_true rfl) (Nat.le_of_ble_eq_true rfl) dX12_goesTo_11 ?_
    refine qt_iload_n 1 dX12_goesTo_14 rfl rfl ?_
    refine qt_icmp_eq 26 dX12_goesTo_15 (by decide) E (fun E => ?_) (fun E => ?_)
    · refine qt_iload_n 2 dX12_goesTo_26 rfl rfl ?_
      obtain ⟨z27, E⟩ := qpr_el E
      obtain ⟨z0_, E, G⟩ := qup_g E G
      exact qt_zreturn rfl z27 (Nat.le_of_ble_eq_true rfl) dX12_goesTo_27 E G
    · refine qt_aload_n 0 dX12_goesTo_18 rfl rfl ?_
      obtain ⟨c19, h19, e19, E⟩ := qbn_el E
      refine qt_callVi (b2 := 0) [] (c_X12_laysOn h11 e19) cv_RX12_440 (wl_119 h11) rfl rfl rfl (Nat.le_of_ble_eq_true rfl) (Nat.le_of_ble_eq_true rfl) dX12_goesTo_19 ?_
      refine qt_istore_n (fun v22 => [(2, .int v22), (0, .ref (g.1 + 119)), (1, .int x1)]) dX12_goesTo_22 rfl (Nat.le_of_ble_eq_true rfl) (fun _ => rfl) E (fun v22 E => ?_)
      refine qt_goto 5 dX12_goesTo_23 (by decide) ?_
      cases E
      exact qt_sub _ [1, 2, 0] rfl (G)
noncomputable def f_X12_goesTo_b5_loop (x1 : Int32) (x2 : Int32) (h : qa_M) : Option (Int32 × qa_M) := qlp (fun sz : Int32 × Int32 × qa_M => f_X12_goesTo_b5 sz.1 sz.2.1 sz.2.2) (x1, x2, h)
theorem s_X12_goesTo_b5_loop {l : Launch} {g : qa_G} {d : Nat} {rz : Option Value} {hz : qa_M} (x1 : Int32) (x2 : Int32) (h : qa_M) {z : (Int32 × qa_M)} (E : f_X12_goesTo_b5_loop x1 x2 h = some z) (G : (qg_i rz hz) z) : qt_At l g (yX12_goesTo, cX12_goesTo, 3, (some .boolean)) (d + 4) 0 0 5 [(0, .ref (g.1 + 119)), (1, .int x1), (2, .int x2)] [] h rz hz :=
  qlp_ind (fun sz : Int32 × Int32 × qa_M => qt_At l g (yX12_goesTo, cX12_goesTo, 3, (some .boolean)) (d + 4) 0 0 5 [(0, .ref (g.1 + 119)), (1, .int sz.1), (2, .int sz.2.1)] [] sz.2.2 rz hz) (fun sz E => s_X12_goesTo_b5 sz.1 sz.2.1 sz.2.2 E G) (fun sz sz2 E ih => s_X12_goesTo_b5 sz.1 sz.2.1 sz.2.2 E ih) (x1, x2, h) E
noncomputable def m_X12_goesTo (x1 : Int32) (h : qa_M) : Option (Int32 × qa_M) :=
  qbn (m_X12_laysOn h) (fun (c1 : Int32) (h1 : qa_M) =>
  qbd c1 (fun v4 : Int32 =>
  f_X12_goesTo_b5_loop x1 v4 h1))
set_option maxRecDepth 20000 in
theorem c_X12_goesTo {l : Launch} {g : qa_G} {d : Nat} (x1 : Int32) (h : qa_M) {c : Int32} {h1 : qa_M} (E : m_X12_goesTo x1 h = some (c, h1)) : qt_Met l g (yX12_goesTo, cX12_goesTo, 3, (some .boolean)) (d + 4) 0 [.ref (g.1 + 119), .int x1] h (some (.int c)) h1 := by
  refine qt_Met.of (plainFor_of_name (by decide)) (Nat.le_of_ble_eq_true rfl) ?_
  have G : qg_i (some (.int c)) h1 ((c, h1)) := ⟨rfl, rfl⟩
  unfold m_X12_goesTo at E
  refine qt_aload_n 0 dX12_goesTo_0 rfl rfl ?_
  obtain ⟨c1, h1, e1, E⟩ := qbn_el E
  refine qt_callVi (b2 := 0) [] (c_X12_laysOn h e1) cv_RX12_440 (wl_119 h) rfl rfl rfl (Nat.le_of_ble_eq_true rfl) (Nat.le_of_ble_eq_true rfl) dX12_goesTo_1 ?_
  refine qt_istore_n (fun v4 => [(2, .int v4), (0, .ref (g.1 + 119)), (1, .int x1)]) dX12_goesTo_4 rfl (Nat.le_of_ble_eq_true rfl) (fun _ => rfl) E (fun v4 E => ?_)
  exact qt_sub _ [1, 2, 0] rfl ((s_X12_goesTo_b5_loop x1 v4 h1 E G))
noncomputable def f_X12_manyFit_b6 (x1 : Int32) (x2 : Int32) (h : qa_M) : Option ((Int32 × Int32 × qa_M) ⊕ (Int32 × qa_M)) :=
  qbn (m_X12_goesTo x1 h) (fun (c8 : Int32) (h8 : qa_M) =>
  if c8 = 0 then (
   qup (some (x2, h8)))
  else (
   qbd (x2 + (1 : Int32)) (fun v14 : Int32 =>
   some (.inl (x1, v14, h8)))))
set_option maxRecDepth 20000 in
theorem s_X12_manyFit_b6 {l : Launch} {g : qa_G} {d : Nat} {rz : Option Value} {hz : qa_M} (x1 : Int32) (x2 : Int32) (h : qa_M) {z : ((Int32 × Int32 × qa_M) ⊕ (Int32 × qa_M))} (E : f_X12_manyFit_b6 x1 x2 h = some z) (G : (Sum.elim (fun (sz : Int32 × Int32 × qa_M) => qt_At l g (yX12_manyFit, cX12_manyFit, 3, (some .int)) (d + 7) 0 0 6 [(0, .ref (g.1 + 119)), (1, .int sz.1), (2, .int sz.2.1)] [] sz.2.2 rz hz) (qg_i rz hz)) z) : qt_At l g (yX12_manyFit, cX12_manyFit, 3, (some .int)) (d + 7) 0 0 6 [(0, .ref (g.1 + 119)), (1, .int x1), (2, .int x2)] [] h rz hz := by
  unfold f_X12_manyFit_b6 at E
  refine qt_aload_n 0 dX12_manyFit_6 rfl rfl ?_
  refine qt_iload_n 1 dX12_manyFit_7 rfl rfl ?_
  obtain ⟨c8, h8, e8, E⟩ := qbn_el E
  refine qt_callVi (b2 := 0) [.int x1] (c_X12_goesTo x1 h e8) cv_RX12_449 (wl_119 h) rfl rfl rfl (Nat.le_of_ble_eq_true rfl) (Nat.le_of_ble_eq_true rfl) dX12_manyFit_8 ?_
  refine qt_if_eq 20 dX12_manyFit_11 (by decide) E (fun E => ?_) (fun E => ?_)
  · refine qt_iload_n 2 dX12_manyFit_20 rfl rfl ?_
    obtain ⟨z0_, E, G⟩ := qup_g E G
    exact qt_ireturn rfl (Nat.le_of_ble_eq_true rfl) dX12_manyFit_21 E G
  · refine qt_iinc 2 (fun v14 => [(2, .int v14), (0, .ref (g.1 + 119)), (1, .int x1)]) dX12_manyFit_14 rfl ci_1 (Nat.le_of_ble_eq_true rfl) (fun _ => rfl) E (fun v14 E => ?_)
    refine qt_goto 6 dX12_manyFit_17 (by decide) ?_
    cases E
    exact qt_sub _ [1, 2, 0] rfl (G)
noncomputable def f_X12_manyFit_b6_loop (x1 : Int32) (x2 : Int32) (h : qa_M) : Option (Int32 × qa_M) := qlp (fun sz : Int32 × Int32 × qa_M => f_X12_manyFit_b6 sz.1 sz.2.1 sz.2.2) (x1, x2, h)
theorem s_X12_manyFit_b6_loop {l : Launch} {g : qa_G} {d : Nat} {rz : Option Value} {hz : qa_M} (x1 : Int32) (x2 : Int32) (h : qa_M) {z : (Int32 × qa_M)} (E : f_X12_manyFit_b6_loop x1 x2 h = some z) (G : (qg_i rz hz) z) : qt_At l g (yX12_manyFit, cX12_manyFit, 3, (some .int)) (d + 7) 0 0 6 [(0, .ref (g.1 + 119)), (1, .int x1), (2, .int x2)] [] h rz hz :=
  qlp_ind (fun sz : Int32 × Int32 × qa_M => qt_At l g (yX12_manyFit, cX12_manyFit, 3, (some .int)) (d + 7) 0 0 6 [(0, .ref (g.1 + 119)), (1, .int sz.1), (2, .int sz.2.1)] [] sz.2.2 rz hz) (fun sz E => s_X12_manyFit_b6 sz.1 sz.2.1 sz.2.2 E G) (fun sz sz2 E ih => s_X12_manyFit_b6 sz.1 sz.2.1 sz.2.2 E ih) (x1, x2, h) E
noncomputable def m_X12_manyFit (x1 : Int32) (h : qa_M) : Option (Int32 × qa_M) :=
  qbv (m_X12_beginsLayings h) (fun h1 : qa_M =>
  qbd (0 : Int32) (fun v5 : Int32 =>
  f_X12_manyFit_b6_loop x1 v5 h1))
set_option maxRecDepth 20000 in
theorem c_X12_manyFit {l : Launch} {g : qa_G} {d : Nat} (x1 : Int32) (h : qa_M) {c : Int32} {h1 : qa_M} (E : m_X12_manyFit x1 h = some (c, h1)) : qt_Met l g (yX12_manyFit, cX12_manyFit, 3, (some .int)) (d + 7) 0 [.ref (g.1 + 119), .int x1] h (some (.int c)) h1 := by
  refine qt_Met.of (plainFor_of_name (by decide)) (Nat.le_of_ble_eq_true rfl) ?_
  have G : qg_i (some (.int c)) h1 ((c, h1)) := ⟨rfl, rfl⟩
  unfold m_X12_manyFit at E
  refine qt_aload_n 0 dX12_manyFit_0 rfl rfl ?_
  obtain ⟨h1, e1, E⟩ := qbv_el E
  refine qt_callVv (b2 := 0) [] (c_X12_beginsLayings h e1) cv_RX12_446 (wl_119 h) rfl rfl rfl (Nat.le_of_ble_eq_true rfl) (Nat.le_of_ble_eq_true rfl) dX12_manyFit_1 ?_
  refine qt_iconst dX12_manyFit_4 ci_0 ?_
  refine qt_istore_n (fun v5 => [(2, .int v5), (0, .ref (g.1 + 119)), (1, .int x1)]) dX12_manyFit_5 rfl (Nat.le_of_ble_eq_true rfl) (fun _ => rfl) E (fun v5 E => ?_)
  exact qt_sub _ [1, 2, 0] rfl ((s_X12_manyFit_b6_loop x1 v5 h1 E G))
noncomputable def m_X12_layings (x1 : Int32) (h : qa_M) : Option (Int32 × qa_M) :=
  qbn (m_X12_isSet x1 h) (fun (c2 : Int32) (h2 : qa_M) =>
  if c2 = 0 then (
   some ((-1 : Int32), h2))
  else (
   qbn (m_X12_manyFit x1 h2) (fun (c10 : Int32) (h10 : qa_M) =>
   some (c10, h10))))
set_option maxRecDepth 20000 in
theorem c_X12_layings {l : Launch} {g : qa_G} {d : Nat} (x1 : Int32) (h : qa_M) {c : Int32} {h1 : qa_M} (E : m_X12_layings x1 h = some (c, h1)) : qt_Met l g (yX12_layings, cX12_layings, 2, (some .int)) (d + 8) 0 [.ref (g.1 + 119), .int x1] h (some (.int c)) h1 := by
  refine qt_Met.of (plainFor_of_name (by decide)) (Nat.le_of_ble_eq_true rfl) ?_
  have G : qg_i (some (.int c)) h1 ((c, h1)) := ⟨rfl, rfl⟩
  unfold m_X12_layings at E
  refine qt_aload_n 0 dX12_layings_0 rfl rfl ?_
  refine qt_iload_n 1 dX12_layings_1 rfl rfl ?_
  obtain ⟨c2, h2, e2, E⟩ := qbn_el E
  refine qt_callVi (b2 := 0) [.int x1] (c_X12_isSet x1 h e2) cv_RX12_452 (wl_119 h) rfl rfl rfl (Nat.le_of_ble_eq_true rfl) (Nat.le_of_ble_eq_true rfl) dX12_layings_2 ?_
  refine qt_if_eq 16 dX12_layings_5 (by decide) E (fun E => ?_) (fun E => ?_)
  · refine qt_iconst dX12_layings_16 ci_m1 ?_
    exact qt_ireturn rfl (Nat.le_of_ble_eq_true rfl) dX12_layings_17 E G
  · refine qt_aload_n 0 dX12_layings_8 rfl rfl ?_
    refine qt_iload_n 1 dX12_layings_9 rfl rfl ?_
    obtain ⟨c10, h10, e10, E⟩ := qbn_el E
    refine qt_callVi (b2 := 0) [.int x1] (c_X12_manyFit x1 h2 e10) cv_RX12_455 (wl_119 h2) rfl rfl rfl (Nat.le_of_ble_eq_true rfl) (Nat.le_of_ble_eq_true rfl) dX12_layings_10 ?_
    refine qt_goto 17 dX12_layings_13 (by decide) ?_
    exact qt_ireturn rfl (Nat.le_of_ble_eq_true rfl) dX12_layings_17 E G
noncomputable def f_X12_stoodOn_b45 (x1 : Int32) (x2 : Int32) (x4 : Int32) (s0 : Int32) (h : qa_M) : Option ((Int32 × Int32 × Int32 × Int32 × qa_M) ⊕ (Int32 × qa_M)) :=
  qbd s0 (fun v45 : Int32 =>
  qbd (x4 + (1 : Int32)) (fun v46 : Int32 =>
  some (.inl (x1, x2, v45, v46, h))))
set_option maxRecDepth 20000 in
theorem s_X12_stoodOn_b45 {l : Launch} {g : qa_G} {d : Nat} {rz : Option Value} {hz : qa_M} (x1 : Int32) (x2 : Int32) (x4 : Int32) (s0 : Int32) (h : qa_M) {z : ((Int32 × Int32 × Int32 × Int32 × qa_M) ⊕ (Int32 × qa_M))} (E : f_X12_stoodOn_b45 x1 x2 x4 s0 h = some z) (G : (Sum.elim (fun (sz : Int32 × Int32 × Int32 × Int32 × qa_M) => qt_At l g (yX12_stoodOn, cX12_stoodOn, 5, (some .boolean)) d 0 0 5 [(0, .ref (g.1 + 119)), (1, .int sz.1), (2, .int sz.2.1), (3, .int sz.2.2.1), (4, .int sz.2.2.2.1)] [] sz.2.2.2.2 rz hz) (qg_i rz hz)) z) : qt_At l g (yX12_stoodOn, cX12_stoodOn, 5, (some .boolean)) d 0 0 45 [(0, .ref (g.1 + 119)), (1, .int x1), (2, .int x2), (4, .int x4)] [.int s0] h rz hz := by
  unfold f_X12_stoodOn_b45 at E
  refine qt_istore_n (fun v45 => [(3, .int v45), (0, .ref (g.1 + 119)), (1, .int x1), (2, .int x2), (4, .int x4)]) dX12_stoodOn_45 rfl (Nat.le_of_ble_eq_true rfl) (fun _ => rfl) E (fun v45 E => ?_)
  refine qt_iinc 4 (fun v46 => [(4, .int v46), (3, .int v45), (0, .ref (g.1 + 119)), (1, .int x1), (2, .int x2)]) dX12_stoodOn_46 rfl ci_1 (Nat.le_of_ble_eq_true rfl) (fun _ => rfl) E (fun v46 E => ?_)
  refine qt_goto 5 dX12_stoodOn_49 (by decide) ?_
  cases E
  exact qt_sub _ [2, 3, 4, 1, 0] rfl (G)
noncomputable def f_X12_stoodOn_b40 (x1 : Int32) (x2 : Int32) (x4 : Int32) (h : qa_M) : Option ((Int32 × Int32 × Int32 × Int32 × qa_M) ⊕ (Int32 × qa_M)) :=
  f_X12_stoodOn_b45 x1 x2 x4 (1 : Int32) h
set_option maxRecDepth 20000 in
theorem s_X12_stoodOn_b40 {l : Launch} {g : qa_G} {d : Nat} {rz : Option Value} {hz : qa_M} (x1 : Int32) (x2 : Int32) (x4 : Int32) (h : qa_M) {z : ((Int32 × Int32 × Int32 × Int32 × qa_M) ⊕ (Int32 × qa_M))} (E : f_X12_stoodOn_b40 x1 x2 x4 h = some z) (G : (Sum.elim (fun (sz : Int32 × Int32 × Int32 × Int32 × qa_M) => qt_At l g (yX12_stoodOn, cX12_stoodOn, 5, (some .boolean)) d 0 0 5 [(0, .ref (g.1 + 119)), (1, .int sz.1), (2, .int sz.2.1), (3, .int sz.2.2.1), (4, .int sz.2.2.2.1)] [] sz.2.2.2.2 rz hz) (qg_i rz hz)) z) : qt_At l g (yX12_stoodOn, cX12_stoodOn, 5, (some .boolean)) d 0 0 40 [(0, .ref (g.1 + 119)), (1, .int x1), (2, .int x2), (4, .int x4)] [] h rz hz := by
  unfold f_X12_stoodOn_b40 at E
  refine qt_iconst dX12_stoodOn_40 ci_1 ?_
  refine qt_goto 45 dX12_stoodOn_41 (by decide) ?_
  exact qt_sub _ [0, 1, 2, 3] rfl ((s_X12_stoodOn_b45 x1 x2 x4 (1 : Int32) h E G))
noncomputable def f_X12_stoodOn_b44 (x1 : Int32) (x2 : Int32) (x4 : Int32) (h : qa_M) : Option ((Int32 × Int32 × Int32 × Int32 × qa_M) ⊕ (Int32 × qa_M)) :=
  f_X12_stoodOn_b45 x1 x2 x4 (0 : Int32) h
set_option maxRecDepth 20000 in
theorem s_X12_stoodOn_b44 {l : Launch} {g : qa_G} {d : Nat} {rz : Option Value} {hz : qa_M} (x1 : Int32) (x2 : Int32) (x4 : Int32) (h : qa_M) {z : ((Int32 × Int32 × Int32 × Int32 × qa_M) ⊕ (Int32 × qa_M))} (E : f_X12_stoodOn_b44 x1 x2 x4 h = some z) (G : (Sum.elim (fun (sz : Int32 × Int32 × Int32 × Int32 × qa_M) => qt_At l g (yX12_stoodOn, cX12_stoodOn, 5, (some .boolean)) d 0 0 5 [(0, .ref (g.1 + 119)), (1, .int sz.1), (2, .int sz.2.1), (3, .int sz.2.2.1), (4, .int sz.2.2.2.1)] [] sz.2.2.2.2 rz hz) (qg_i rz hz)) z) : qt_At l g (yX12_stoodOn, cX12_stoodOn, 5, (some .boolean)) d 0 0 44 [(0, .ref (g.1 + 119)), (1, .int x1), (2, .int x2), (4, .int x4)] [] h rz hz := by
  unfold f_X12_stoodOn_b44 at E
  refine qt_iconst dX12_stoodOn_44 ci_0 ?_
  exact qt_sub _ [0, 1, 2, 3] rfl ((s_X12_stoodOn_b45 x1 x2 x4 (0 : Int32) h E G))
noncomputable def f_X12_stoodOn_b5 (x1 : Int32) (x2 : Int32) (x3 : Int32) (x4 : Int32) (h : qa_M) : Option ((Int32 × Int32 × Int32 × Int32 × qa_M) ⊕ (Int32 × qa_M)) :=
  if (h.1 119 48) ≤ x4 then (
   qpr (x3 = 0 ∨ x3 = 1) (
   qup (some (x3, h))))
  else (
   if x3 = 0 then (
    qck x4 4 (
    if (h.1 151 x4.toNatClampNeg) = x1 then (
     qck x4 4 (
     if (h.1 152 x4.toNatClampNeg) = x2 then (
      f_X12_stoodOn_b40 x1 x2 x4 h)
     else (
      f_X12_stoodOn_b44 x1 x2 x4 h)))
    else (
     f_X12_stoodOn_b44 x1 x2 x4 h)))
   else (
    f_X12_stoodOn_b40 x1 x2 x4 h))
set_option maxRecDepth 20000 in
theorem s_X12_stoodOn_b5 {l : Launch} {g : qa_G} {d : Nat} {rz : Option Value} {hz : qa_M} (x1 : Int32) (x2 : Int32) (x3 : Int32) (x4 : Int32) (h : qa_M) {z : ((Int32 × Int32 × Int32 × Int32 × qa_M) ⊕ (Int32 × qa_M))} (E : f_X12_stoodOn_b5 x1 x2 x3 x4 h = some z) (G : (Sum.elim (fun (sz : Int32 × Int32 × Int32 × Int32 × qa_M) => qt_At l g (yX12_stoodOn, cX12_stoodOn, 5, (some .boolean)) d 0 0 5 [(0, .ref (g.1 + 119)), (1, .int sz.1), (2, .int sz.2.1), (3, .int sz.2.2.1), (4, .int sz.2.2.2.1)] [] sz.2.2.2.2 rz hz) (qg_i rz hz)) z) : qt_At l g (yX12_stoodOn, cX12_stoodOn, 5, (some .boolean)) d 0 0 5 [(0, .ref (g.1 + 119)), (1, .int x1), (2, .int x2), (3, .int x3), (4, .int x4)] [] h rz hz := by
  unfold f_X12_stoodOn_b5 at E
  refine qt_iload 4 dX12_stoodOn_5 rfl ?_
  refine qt_aload_n 0 dX12_stoodOn_7 rfl rfl ?_
  refine qt_getI (wl_119 h) fe_RX12_424 rfl dX12_stoodOn_8 ?_
  refine qt_icmp_ge 52 dX12_stoodOn_11 (by decide) E (fun E => ?_) (fun E => ?_)
  · refine qt_iload_n 3 dX12_stoodOn_52 rfl rfl ?_
    obtain ⟨z53, E⟩ := qpr_el E
    obtain ⟨z0_, E, G⟩ := qup_g E G
    exact qt_zreturn rfl z53 (Nat.le_of_ble_eq_true rfl) dX12_stoodOn_53 E G
  · refine qt_iload_n 3 dX12_stoodOn_14 rfl rfl ?_
    refine qt_if_ne 40 dX12_stoodOn_15 (by decide) E (fun E => ?_) (fun E => ?_)
    · exact qt_sub _ [0, 1, 2, 4] rfl ((s_X12_stoodOn_b40 x1 x2 x4 h E G))
    · refine qt_aload_n 0 dX12_stoodOn_18 rfl rfl ?_
      refine qt_getS 151 (wl_119 h) fe_RX12_109 rfl dX12_stoodOn_19 ?_
      refine qt_iload 4 dX12_stoodOn_22 rfl ?_
      refine qt_iald (wl_151 h) dX12_stoodOn_24 E (fun E => ?_)
      refine qt_iload_n 1 dX12_stoodOn_25 rfl rfl ?_
      refine qt_icmp_ne 44 dX12_stoodOn_26 (by decide) E (fun E => ?_) (fun E => ?_)
      · exact qt_sub _ [0, 1, 2, 4] rfl ((s_X12_stoodOn_b44 x1 x2 x4 h E G))
      · refine qt_aload_n 0 dX12_stoodOn_29 rfl rfl ?_
        refine qt_getS 152 (wl_119 h) fe_RX12_112 rfl dX12_stoodOn_30 ?_
        refine qt_iload 4 dX12_stoodOn_33 rfl ?_
        refine qt_iald (wl_152 h) dX12_stoodOn_35 E (fun E => ?_)
        refine qt_iload_n 2 dX12_stoodOn_36 rfl rfl ?_
        refine qt_icmp_ne 44 dX12_stoodOn_37 (by decide) E (fun E => ?_) (fun E => ?_)
        · exact qt_sub _ [0, 1, 2, 4] rfl ((s_X12_stoodOn_b44 x1 x2 x4 h E G))
        · exact qt_sub _ [0, 1, 2, 4] rfl ((s_X12_stoodOn_b40 x1 x2 x4 h E G))
noncomputable def f_X12_stoodOn_b5_loop (x1 : Int32) (x2 : Int32) (x3 : Int32) (x4 : Int32) (h : qa_M) : Option (Int32 × qa_M) := qlp (fun sz : Int32 × Int32 × Int32 × Int32 × qa_M => f_X12_stoodOn_b5 sz.1 sz.2.1 sz.2.2.1 sz.2.2.2.1 sz.2.2.2.2) (x1, x2, x3, x4, h)
theorem s_X12_stoodOn_b5_loop {l : Launch} {g : qa_G} {d : Nat} {rz : Option Value} {hz : qa_M} (x1 : Int32) (x2 : Int32) (x3 : Int32) (x4 : Int32) (h : qa_M) {z : (Int32 × qa_M)} (E : f_X12_stoodOn_b5_loop x1 x2 x3 x4 h = some z) (G : (qg_i rz hz) z) : qt_At l g (yX12_stoodOn, cX12_stoodOn, 5, (some .boolean)) d 0 0 5 [(0, .ref (g.1 + 119)), (1, .int x1), (2, .int x2), (3, .int x3), (4, .int x4)] [] h rz hz :=
  qlp_ind (fun sz : Int32 × Int32 × Int32 × Int32 × qa_M => qt_At l g (yX12_stoodOn, cX12_stoodOn, 5, (some .boolean)) d 0 0 5 [(0, .ref (g.1 + 119)), (1, .int sz.1), (2, .int sz.2.1), (3, .int sz.2.2.1), (4, .int sz.2.2.2.1)] [] sz.2.2.2.2 rz hz) (fun sz E => s_X12_stoodOn_b5 sz.1 sz.2.1 sz.2.2.1 sz.2.2.2.1 sz.2.2.2.2 E G) (fun sz sz2 E ih => s_X12_stoodOn_b5 sz.1 sz.2.1 sz.2.2.1 sz.2.2.2.1 sz.2.2.2.2 E ih) (x1, x2, x3, x4, h) E
noncomputable def m_X12_stoodOn (x1 : Int32) (x2 : Int32) (h : qa_M) : Option (Int32 × qa_M) :=
  qbd (0 : Int32) (fun v1 : Int32 =>
  qbd (0 : Int32) (fun v3 : Int32 =>
  f_X12_stoodOn_b5_loop x1 x2 v1 v3 h))
set_option maxRecDepth 20000 in
theorem c_X12_stoodOn {l : Launch} {g : qa_G} {d : Nat} (x1 : Int32) (x2 : Int32) (h : qa_M) {c : Int32} {h1 : qa_M} (E : m_X12_stoodOn x1 x2 h = some (c, h1)) : qt_Met l g (yX12_stoodOn, cX12_stoodOn, 5, (some .boolean)) d 0 [.ref (g.1 + 119), .int x1, .int x2] h (some (.int c)) h1 := by
  refine qt_Met.of (plainFor_of_name (by decide)) (Nat.le_of_ble_eq_true rfl) ?_
  have G : qg_i (some (.int c)) h1 ((c, h1)) := ⟨rfl, rfl⟩
  unfold m_X12_stoodOn at E
  refine qt_iconst dX12_stoodOn_0 ci_0 ?_
  refine qt_istore_n (fun v1 => [(3, .int v1), (0, .ref (g.1 + 119)), (1, .int x1), (2, .int x2)]) dX12_stoodOn_1 rfl (Nat.le_of_ble_eq_true rfl) (fun _ => rfl) E (fun v1 E => ?_)
  refine qt_iconst dX12_stoodOn_2 ci_0 ?_
  refine qt_istore (fun v3 => [(4, .int v3), (3, .int v1), (0, .ref (g.1 + 119)), (1, .int x1), (2, .int x2)]) dX12_stoodOn_3 (Nat.le_of_ble_eq_true rfl) (fun _ => rfl) E (fun v3 E => ?_)
  exact qt_sub _ [2, 3, 4, 1, 0] rfl ((s_X12_stoodOn_b5_loop x1 x2 v1 v3 h E G))
noncomputable def f_X12_counts_b51 (x1 : Int32) (x2 : Int32) (x3 : Int32) (s1 : Int32) (s2 : Int32) (h : qa_M) : Option ((Int32 × Int32 × Int32 × qa_M) ⊕ qa_M) :=
  qbd (qw_I h 119 51 (s1 + s2)) (fun h52 : qa_M =>
  some (.inl (x1, x2, x3, h52)))
set_option maxRecDepth 20000 in
theorem s_X12_counts_b51 {l : Launch} {g : qa_G} {d : Nat} {rz : Option Value} {hz : qa_M} (x1 : Int32) (x2 : Int32) (x3 : Int32) (s1 : Int32) (s2 : Int32) (h : qa_M) {z : ((Int32 × Int32 × Int32 × qa_M) ⊕ qa_M)} (E : f_X12_counts_b51 x1 x2 x3 s1 s2 h = some z) (G : (Sum.elim (fun (sz : Int32 × Int32 × Int32 × qa_M) => qt_At l g (yX12_counts, cX12_counts, 4, none) (d + 7) 0 0 14 [(0, .ref (g.1 + 119)), (1, .int sz.1), (2, .int sz.2.1), (3, .int sz.2.2.1)] [] sz.2.2.2 rz hz) (qg_v rz hz)) z) : qt_At l g (yX12_counts, cX12_counts, 4, none) (d + 7) 0 0 51 [(0, .ref (g.1 + 119)), (1, .int x1), (2, .int x2), (3, .int x3)] [.int s2, .int s1, .ref (g.1 + 119)] h rz hz := by
  unfold f_X12_counts_b51 at E
  refine qt_iadd dX12_counts_51 ?_
  refine qt_putI (wl_119 h) fd_RX12_461 rfl rfl rfl dX12_counts_52 E (fun h52 E => ?_)
  refine qt_goto 14 dX12_counts_55 (by decide) ?_
  cases E
  exact qt_sub _ [0, 1, 2, 3] rfl (G)
noncomputable def f_X12_counts_b14 (x1 : Int32) (x2 : Int32) (x3 : Int32) (h : qa_M) : Option ((Int32 × Int32 × Int32 × qa_M) ⊕ qa_M) :=
  qbn (m_X12_goesTo x1 h) (fun (c16 : Int32) (h16 : qa_M) =>
  if c16 = 0 then (
   qup (some h16))
  else (
   qbd (qw_I h16 119 50 ((h16.1 119 50) + (1 : Int32))) (fun h29 : qa_M =>
   qbn (m_X12_stoodOn x2 x3 h29) (fun (c40 : Int32) (h40 : qa_M) =>
   if c40 = 0 then (
    f_X12_counts_b51 x1 x2 x3 (h29.1 119 51) (0 : Int32) h40)
   else (
    f_X12_counts_b51 x1 x2 x3 (h29.1 119 51) (1 : Int32) h40)))))
set_option maxRecDepth 20000 in
theorem s_X12_counts_b14 {l : Launch} {g : qa_G} {d : Nat} {rz : Option Value} {hz : qa_M} (x1 : Int32) (x2 : Int32) (x3 : Int32) (h : qa_M) {z : ((Int32 × Int32 × Int32 × qa_M) ⊕ qa_M)} (E : f_X12_counts_b14 x1 x2 x3 h = some z) (G : (Sum.elim (fun (sz : Int32 × Int32 × Int32 × qa_M) => qt_At l g (yX12_counts, cX12_counts, 4, none) (d + 7) 0 0 14 [(0, .ref (g.1 + 119)), (1, .int sz.1), (2, .int sz.2.1), (3, .int sz.2.2.1)] [] sz.2.2.2 rz hz) (qg_v rz hz)) z) : qt_At l g (yX12_counts, cX12_counts, 4, none) (d + 7) 0 0 14 [(0, .ref (g.1 + 119)), (1, .int x1), (2, .int x2), (3, .int x3)] [] h rz hz := by
  unfold f_X12_counts_b14 at E
  refine qt_aload_n 0 dX12_counts_14 rfl rfl ?_
  refine qt_iload_n 1 dX12_counts_15 rfl rfl ?_
  obtain ⟨c16, h16, e16, E⟩ := qbn_el E
  refine qt_callVi (b2 := 0) [.int x1] (c_X12_goesTo x1 h e16) cv_RX12_449 (wl_119 h) rfl rfl rfl (Nat.le_of_ble_eq_true rfl) (Nat.le_of_ble_eq_true rfl) dX12_counts_16 ?_
  refine qt_if_eq 58 dX12_counts_19 (by decide) E (fun E => ?_) (fun E => ?_)
  · obtain ⟨z0_, E, G⟩ := qup_g E G
    exact qt_vreturn rfl (Nat.le_of_ble_eq_true rfl) dX12_counts_58 E G
  · refine qt_aload_n 0 dX12_counts_22 rfl rfl ?_
    refine qt_dup dX12_counts_23 rfl ?_
    refine qt_getI (wl_119 h16) fe_RX12_458 rfl dX12_counts_24 ?_
    refine qt_iconst dX12_counts_27 ci_1 ?_
    refine qt_iadd dX12_counts_28 ?_
    refine qt_putI (wl_119 h16) fd_RX12_458 rfl rfl rfl dX12_counts_29 E (fun h29 E => ?_)
    refine qt_aload_n 0 dX12_counts_32 rfl rfl ?_
    refine qt_dup dX12_counts_33 rfl ?_
    refine qt_getI (wl_119 h29) fe_RX12_461 rfl dX12_counts_34 ?_
    refine qt_aload_n 0 dX12_counts_37 rfl rfl ?_
    refine qt_iload_n 2 dX12_counts_38 rfl rfl ?_
    refine qt_iload_n 3 dX12_counts_39 rfl rfl ?_
    obtain ⟨c40, h40, e40, E⟩ := qbn_el E
    refine qt_callVi (b2 := 0) [.int x2, .int x3] (c_X12_stoodOn x2 x3 h29 e40) cv_RX12_464 (wl_119 h29) rfl rfl rfl (Nat.le_of_ble_eq_true rfl) (Nat.le_of_ble_eq_true rfl) dX12_counts_40 ?_
    refine qt_if_eq 50 dX12_counts_43 (by decide) E (fun E => ?_) (fun E => ?_)
    · refine qt_iconst dX12_counts_50 ci_0 ?_
      exact qt_sub _ [0, 1, 2, 3] rfl ((s_X12_counts_b51 x1 x2 x3 (h29.1 119 51) (0 : Int32) h40 E G))
    · refine qt_iconst dX12_counts_46 ci_1 ?_
      refine qt_goto 51 dX12_counts_47 (by decide) ?_
      exact qt_sub _ [0, 1, 2, 3] rfl ((s_X12_counts_b51 x1 x2 x3 (h29.1 119 51) (1 : Int32) h40 E G))
noncomputable def f_X12_counts_b14_loop (x1 : Int32) (x2 : Int32) (x3 : Int32) (h : qa_M) : Option qa_M := qlp (fun sz : Int32 × Int32 × Int32 × qa_M => f_X12_counts_b14 sz.1 sz.2.1 sz.2.2.1 sz.2.2.2) (x1, x2, x3, h)
theorem s_X12_counts_b14_loop {l : Launch} {g : qa_G} {d : Nat} {rz : Option Value} {hz : qa_M} (x1 : Int32) (x2 : Int32) (x3 : Int32) (h : qa_M) {z : qa_M} (E : f_X12_counts_b14_loop x1 x2 x3 h = some z) (G : (qg_v rz hz) z) : qt_At l g (yX12_counts, cX12_counts, 4, none) (d + 7) 0 0 14 [(0, .ref (g.1 + 119)), (1, .int x1), (2, .int x2), (3, .int x3)] [] h rz hz :=
  qlp_ind (fun sz : Int32 × Int32 × Int32 × qa_M => qt_At l g (yX12_counts, cX12_counts, 4, none) (d + 7) 0 0 14 [(0, .ref (g.1 + 119)), (1, .int sz.1), (2, .int sz.2.1), (3, .int sz.2.2.1)] [] sz.2.2.2 rz hz) (fun sz E => s_X12_counts_b14 sz.1 sz.2.1 sz.2.2.1 sz.2.2.2 E G) (fun sz sz2 E ih => s_X12_counts_b14 sz.1 sz.2.1 sz.2.2.1 sz.2.2.2 E ih) (x1, x2, x3, h) E
noncomputable def m_X12_counts (x1 : Int32) (x2 : Int32) (x3 : Int32) (h : qa_M) : Option qa_M :=
  qbv (m_X12_beginsLayings h) (fun h1 : qa_M =>
  qbd (qw_I h1 119 50 (0 : Int32)) (fun h6 : qa_M =>
  qbd (qw_I h6 119 51 (0 : Int32)) (fun h11 : qa_M =>
  f_X12_counts_b14_loop x1 x2 x3 h11)))
set_option maxRecDepth 20000 in
theorem c_X12_counts {l : Launch} {g : qa_G} {d : Nat} (x1 : Int32) (x2 : Int32) (x3 : Int32) (h : qa_M) {h1 : qa_M} (E : m_X12_counts x1 x2 x3 h = some h1) : qt_Met l g (yX12_counts, cX12_counts, 4, none) (d + 7) 0 [.ref (g.1 + 119), .int x1, .int x2, .int x3] h none h1 := by
  refine qt_Met.of (plainFor_of_name (by decide)) (Nat.le_of_ble_eq_true rfl) ?_
  have G : qg_v none h1 (h1) := ⟨rfl, rfl⟩
  unfold m_X12_counts at E
  refine qt_aload_n 0 dX12_counts_0 rfl rfl ?_
  obtain ⟨h1, e1, E⟩ := qbv_el E
  refine qt_callVv (b2 := 0) [] (c_X12_beginsLayings h e1) cv_RX12_446 (wl_119 h) rfl rfl rfl (Nat.le_of_ble_eq_true rfl) (Nat.le_of_ble_eq_true rfl) dX12_counts_1 ?_
  refine qt_aload_n 0 dX12_counts_4 rfl rfl ?_
  refine qt_iconst dX12_counts_5 ci_0 ?_
  refine qt_putI (wl_119 h1) fd_RX12_458 rfl rfl rfl dX12_counts_6 E (fun h6 E => ?_)
  refine qt_aload_n 0 dX12_counts_9 rfl rfl ?_
  refine qt_iconst dX12_counts_10 ci_0 ?_
  refine qt_putI (wl_119 h6) fd_RX12_461 rfl rfl rfl dX12_counts_11 E (fun h11 E => ?_)
  exact qt_sub _ [0, 1, 2, 3] rfl ((s_X12_counts_b14_loop x1 x2 x3 h11 E G))
noncomputable def m_X12_may (x1 : Int32) (x2 : Int32) (x3 : Int32) (x4 : Int32) (h : qa_M) : Option (Int32 × qa_M) :=
  qbn (m_X12_isSet x1 h) (fun (c2 : Int32) (h2 : qa_M) =>
  if c2 = 0 then (
   some ((-1 : Int32), h2))
  else (
   qbn (m_X12_isSquare x2 x3 h2) (fun (c11 : Int32) (h11 : qa_M) =>
   if c11 = 0 then (
    some ((-1 : Int32), h11))
   else (
    qbn (m_X12_isSort x4 h11) (fun (c20 : Int32) (h20 : qa_M) =>
    if c20 = 0 then (
     some ((-1 : Int32), h20))
    else (
     qbv (m_X12_counts x1 (((6 : Int32) * x3) + x2) x4 h20) (fun h38 : qa_M =>
     if (h38.1 119 51) = 0 then (
      some ((0 : Int32), h38))
     else (
      if (h38.1 119 51) = (h38.1 119 50) then (
       some ((2 : Int32), h38))
      else (
       some ((1 : Int32), h38))))))))))
set_option maxRecDepth 20000 in
theorem c_X12_may {l : Launch} {g : qa_G} {d : Nat} (x1 : Int32) (x2 : Int32) (x3 : Int32) (x4 : Int32) (h : qa_M) {c : Int32} {h1 : qa_M} (E : m_X12_may x1 x2 x3 x4 h = some (c, h1)) : qt_Met l g (yX12_may, cX12_may, 5, (some .int)) (d + 8) 0 [.ref (g.1 + 119), .int x1, .int x2, .int x3, .int x4] h (some (.int c)) h1 := by
  refine qt_Met.of (plainFor_of_name (by decide)) (Nat.le_of_ble_eq_true rfl) ?_
  have G : qg_i (some (.int c)) h1 ((c, h1)) := ⟨rfl, rfl⟩
  unfold m_X12_may at E
  refine qt_aload_n 0 dX12_may_0 rfl rfl ?_
  refine qt_iload_n 1 dX12_may_1 rfl rfl ?_
  obtain ⟨c2, h2, e2, E⟩ := qbn_el E
  refine qt_callVi (b2 := 0) [.int x1] (c_X12_isSet x1 h e2) cv_RX12_452 (wl_119 h) rfl rfl rfl (Nat.le_of_ble_eq_true rfl) (Nat.le_of_ble_eq_true rfl) dX12_may_2 ?_
  refine qt_if_eq 26 dX12_may_5 (by decide) E (fun E => ?_) (fun E => ?_)
  · refine qt_iconst dX12_may_26 ci_m1 ?_
    exact qt_ireturn rfl (Nat.le_of_ble_eq_true rfl) dX12_may_27 E G
  · refine qt_aload_n 0 dX12_may_8 rfl rfl ?_
    refine qt_iload_n 2 dX12_may_9 rfl rfl ?_
    refine qt_iload_n 3 dX12_may_10 rfl rfl ?_
    obtain ⟨c11, h11, e11, E⟩ := qbn_el E
    refine qt_callVi (b2 := 0) [.int x2, .int x3] (c_X12_isSquare x2 x3 h2 e11) cv_RX12_165 (wl_119 h2) rfl rfl rfl (Nat.le_of_ble_eq_true rfl) (Nat.le_of_ble_eq_true rfl) dX12_may_11 ?_
    refine qt_if_eq 26 dX12_may_14 (by decide) E (fun E => ?_) (fun E => ?_)
    · refine qt_iconst dX12_may_26 ci_m1 ?_
      exact qt_ireturn rfl (Nat.le_of_ble_eq_true rfl) dX12_may_27 E G
    · refine qt_aload_n 0 dX12_may_17 rfl rfl ?_
      refine qt_iload 4 dX12_may_18 rfl ?_
      obtain ⟨c20, h20, e20, E⟩ := qbn_el E
      refine qt_callVi (b2 := 0) [.int x4] (c_X12_isSort x4 h11 e20) cv_RX12_410 (wl_119 h11) rfl rfl rfl (Nat.le_of_ble_eq_true rfl) (Nat.le_of_ble_eq_true rfl) dX12_may_20 ?_
      refine qt_if_ne 28 dX12_may_23 (by decide) E (fun E => ?_) (fun E => ?_)
      · refine qt_aload_n 0 dX12_may_28 rfl rfl ?_
        refine qt_iload_n 1 dX12_may_29 rfl rfl ?_
        refine qt_bipush dX12_may_30 cb_6 ?_
        refine qt_iload_n 3 dX12_may_32 rfl rfl ?_
        refine qt_imul dX12_may_33 ?_
        refine qt_iload_n 2 dX12_may_34 rfl rfl ?_
        refine qt_iadd dX12_may_35 ?_
        refine qt_iload 4 dX12_may_36 rfl ?_
        obtain ⟨h38, e38, E⟩ := qbv_el E
        refine qt_callVv (b2 := 0) [.int x1, .int (((6 : Int32) * x3) + x2), .int x4] (c_X12_counts x1 (((6 : Int32) * x3) + x2) x4 h20 e38) cv_RX12_467 (wl_119 h20) rfl rfl rfl (Nat.le_of_ble_eq_true rfl) (Nat.le_of_ble_eq_true rfl) dX12_may_38 ?_
        refine qt_aload_n 0 dX12_may_41 rfl rfl ?_
        refine qt_getI (wl_119 h38) fe_RX12_461 rfl dX12_may_42 ?_
        refine qt_if_ne 52 dX12_may_45 (by decide) E (fun E => ?_) (fun E => ?_)
        · refine qt_aload_n 0 dX12_may_52 rfl rfl ?_
          refine qt_getI (wl_119 h38) fe_RX12_461 rfl dX12_may_53 ?_
          refine qt_aload_n 0 dX12_may_56 rfl rfl ?_
          refine qt_getI (wl_119 h38) fe_RX12_458 rfl dX12_may_57 ?_
          refine qt_icmp_ne 67 dX12_may_60 (by decide) E (fun E => ?_) (fun E => ?_)
          · refine qt_iconst dX12_may_67 ci_1 ?_
            exact qt_ireturn rfl (Nat.le_of_ble_eq_true rfl) dX12_may_68 E G
          · refine qt_iconst dX12_may_63 ci_2 ?_
            refine qt_goto 68 dX12_may_64 (by decide) ?_
            exact qt_ireturn rfl (Nat.le_of_ble_eq_true rfl) dX12_may_68 E G
        · refine qt_iconst dX12_may_48 ci_0 ?_
          refine qt_goto 68 dX12_may_49 (by decide) ?_
          exact qt_ireturn rfl (Nat.le_of_ble_eq_true rfl) dX12_may_68 E G
      · refine qt_iconst dX12_may_26 ci_m1 ?_
        exact qt_ireturn rfl (Nat.le_of_ble_eq_true rfl) dX12_may_27 E G
noncomputable def f_X12_divisor_b4 (x2 : Int32) (x3 : Int32) (h : qa_M) : Option ((Int32 × Int32 × qa_M) ⊕ (Int32 × qa_M)) :=
  if x2 = 0 then (
   qup (some (x3, h)))
  else (
   qnz (x2 = 0) (
   qbd (x3 - x3 / x2 * x2) (fun v11 : Int32 =>
   qbd x2 (fun v14 : Int32 =>
   qbd v11 (fun v17 : Int32 =>
   some (.inl (v17, v14, h)))))))
set_option maxRecDepth 20000 in
theorem s_X12_divisor_b4 {l : Launch} {g : qa_G} {d : Nat} {rz : Option Value} {hz : qa_M} (x2 : Int32) (x3 : Int32) (h : qa_M) {z : ((Int32 × Int32 × qa_M) ⊕ (Int32 × qa_M))} (E : f_X12_divisor_b4 x2 x3 h = some z) (G : (Sum.elim (fun (sz : Int32 × Int32 × qa_M) => qt_At l g (yX12_divisor, cX12_divisor, 5, (some .int)) d 0 0 4 [(2, .int sz.1), (3, .int sz.2.1)] [] sz.2.2 rz hz) (qg_i rz hz)) z) : qt_At l g (yX12_divisor, cX12_divisor, 5, (some .int)) d 0 0 4 [(2, .int x2), (3, .int x3)] [] h rz hz := by
  unfold f_X12_divisor_b4 at E
  refine qt_iload_n 0 dX12_divisor_4 rfl rfl ?_
  refine qt_if_eq 21 dX12_divisor_5 (by decide) E (fun E => ?_) (fun E => ?_)
  · refine qt_iload_n 1 dX12_divisor_21 rfl rfl ?_
    obtain ⟨z0_, E, G⟩ := qup_g E G
    exact qt_ireturn rfl (Nat.le_of_ble_eq_true rfl) dX12_divisor_22 E G
  · refine qt_iload_n 1 dX12_divisor_8 rfl rfl ?_
    refine qt_iload_n 0 dX12_divisor_9 rfl rfl ?_
    refine qt_irem dX12_divisor_10 E (fun E => ?_)
    refine qt_istore (fun v11 => [(4, .int v11), (2, .int x2), (3, .int x3)]) dX12_divisor_11 (Nat.le_of_ble_eq_true rfl) (fun _ => rfl) E (fun v11 E => ?_)
    refine qt_iload_n 1 dX12_divisor_13 rfl rfl ?_
    refine qt_istore_n (fun v14 => [(3, .int v14), (4, .int v11), (2, .int x2)]) dX12_divisor_14 rfl (Nat.le_of_ble_eq_true rfl) (fun _ => rfl) E (fun v14 E => ?_)
    refine qt_iload 1 dX12_divisor_15 rfl ?_
    refine qt_istore_n (fun v17 => [(2, .int v17), (3, .int v14), (4, .int v11)]) dX12_divisor_17 rfl (Nat.le_of_ble_eq_true rfl) (fun _ => rfl) E (fun v17 E => ?_)
    refine qt_goto 4 dX12_divisor_18 (by decide) ?_
    cases E
    exact qt_sub _ [0, 1] rfl (G)
noncomputable def f_X12_divisor_b4_loop (x2 : Int32) (x3 : Int32) (h : qa_M) : Option (Int32 × qa_M) := qlp (fun sz : Int32 × Int32 × qa_M => f_X12_divisor_b4 sz.1 sz.2.1 sz.2.2) (x2, x3, h)
theorem s_X12_divisor_b4_loop {l : Launch} {g : qa_G} {d : Nat} {rz : Option Value} {hz : qa_M} (x2 : Int32) (x3 : Int32) (h : qa_M) {z : (Int32 × qa_M)} (E : f_X12_divisor_b4_loop x2 x3 h = some z) (G : (qg_i rz hz) z) : qt_At l g (yX12_divisor, cX12_divisor, 5, (some .int)) d 0 0 4 [(2, .int x2), (3, .int x3)] [] h rz hz :=
  qlp_ind (fun sz : Int32 × Int32 × qa_M => qt_At l g (yX12_divisor, cX12_divisor, 5, (some .int)) d 0 0 4 [(2, .int sz.1), (3, .int sz.2.1)] [] sz.2.2 rz hz) (fun sz E => s_X12_divisor_b4 sz.1 sz.2.1 sz.2.2 E G) (fun sz sz2 E ih => s_X12_divisor_b4 sz.1 sz.2.1 sz.2.2 E ih) (x2, x3, h) E
noncomputable def m_X12_divisor (x0 : Int32) (x1 : Int32) (h : qa_M) : Option (Int32 × qa_M) :=
  qbd x0 (fun v1 : Int32 =>
  qbd x1 (fun v3 : Int32 =>
  f_X12_divisor_b4_loop v1 v3 h))
set_option maxRecDepth 20000 in
theorem c_X12_divisor {l : Launch} {g : qa_G} {d : Nat} (x0 : Int32) (x1 : Int32) (h : qa_M) {c : Int32} {h1 : qa_M} (E : m_X12_divisor x0 x1 h = some (c, h1)) : qt_Met l g (yX12_divisor, cX12_divisor, 5, (some .int)) d 0 [.int x0, .int x1] h (some (.int c)) h1 := by
  refine qt_Met.of (plainFor_of_name (by decide)) (Nat.le_of_ble_eq_true rfl) ?_
  have G : qg_i (some (.int c)) h1 ((c, h1)) := ⟨rfl, rfl⟩
  unfold m_X12_divisor at E
  refine qt_iload_n 0 dX12_divisor_0 rfl rfl ?_
  refine qt_istore_n (fun v1 => [(2, .int v1), (0, .int x0), (1, .int x1)]) dX12_divisor_1 rfl (Nat.le_of_ble_eq_true rfl) (fun _ => rfl) E (fun v1 E => ?_)
  refine qt_iload_n 2 dX12_divisor_2 rfl rfl ?_
  refine qt_istore_n (fun v3 => [(3, .int v3), (2, .int v1), (0, .int x0), (1, .int x1)]) dX12_divisor_3 rfl (Nat.le_of_ble_eq_true rfl) (fun _ => rfl) E (fun v3 E => ?_)
  exact qt_sub _ [1, 0] rfl ((s_X12_divisor_b4_loop v1 v3 h E G))
noncomputable def m_X12_odds (x1 : Int32) (x2 : Int32) (x3 : Int32) (x4 : Int32) (x5 : Int32) (h : qa_M) : Option (Int32 × qa_M) :=
  qbn (m_X12_isSet x1 h) (fun (c2 : Int32) (h2 : qa_M) =>
  if c2 = 0 then (
   some ((-1 : Int32), h2))
  else (
   qbn (m_X12_isSquare x2 x3 h2) (fun (c11 : Int32) (h11 : qa_M) =>
   if c11 = 0 then (
    some ((-1 : Int32), h11))
   else (
    qbn (m_X12_isSort x4 h11) (fun (c20 : Int32) (h20 : qa_M) =>
    if c20 = 0 then (
     some ((-1 : Int32), h20))
    else (
     qbn (m_X12_in x5.toInt64 (0 : Int64) (1 : Int64) h20) (fun (c31 : Int32) (h31 : qa_M) =>
     if c31 = 0 then (
      some ((-1 : Int32), h31))
     else (
      qbv (m_X12_counts x1 (((6 : Int32) * x3) + x2) x4 h31) (fun h49 : qa_M =>
      if (h49.1 119 51) = 0 then (
       some (x5, h49))
      else (
       qbn (m_X12_divisor (h49.1 119 51) (h49.1 119 50) h49) (fun (c70 : Int32) (h70 : qa_M) =>
       qbd c70 (fun v73 : Int32 =>
       if x5 = 0 then (
        qnz (v73 = 0) (
        some (((h70.1 119 51) / v73), h70)))
       else (
        qnz (v73 = 0) (
        some (((h70.1 119 50) / v73), h70)))))))))))))))
set_option maxRecDepth 20000 in
theorem c_X12_odds {l : Launch} {g : qa_G} {d : Nat} (x1 : Int32) (x2 : Int32) (x3 : Int32) (x4 : Int32) (x5 : Int32) (h : qa_M) {c : Int32} {h1 : qa_M} (E : m_X12_odds x1 x2 x3 x4 x5 h = some (c, h1)) : qt_Met l g (yX12_odds, cX12_odds, 7, (some .int)) (d + 8) 0 [.ref (g.1 + 119), .int x1, .int x2, .int x3, .int x4, .int x5] h (some (.int c)) h1 := by
  refine qt_Met.of (plainFor_of_name (by decide)) (Nat.le_of_ble_eq_true rfl) ?_
  have G : qg_i (some (.int c)) h1 ((c, h1)) := ⟨rfl, rfl⟩
  unfold m_X12_odds at E
  refine qt_aload_n 0 dX12_odds_0 rfl rfl ?_
  refine qt_iload_n 1 dX12_odds_1 rfl rfl ?_
  obtain ⟨c2, h2, e2, E⟩ := qbn_el E
  refine qt_callVi (b2 := 0) [.int x1] (c_X12_isSet x1 h e2) cv_RX12_452 (wl_119 h) rfl rfl rfl (Nat.le_of_ble_eq_true rfl) (Nat.le_of_ble_eq_true rfl) dX12_odds_2 ?_
  refine qt_if_eq 37 dX12_odds_5 (by decide) E (fun E => ?_) (fun E => ?_)
  · refine qt_iconst dX12_odds_37 ci_m1 ?_
    exact qt_ireturn rfl (Nat.le_of_ble_eq_true rfl) dX12_odds_38 E G
  · refine qt_aload_n 0 dX12_odds_8 rfl rfl ?_
    refine qt_iload_n 2 dX12_odds_9 rfl rfl ?_
    refine qt_iload_n 3 dX12_odds_10 rfl rfl ?_
    obtain ⟨c11, h11, e11, E⟩ := qbn_el E
    refine qt_callVi (b2 := 0) [.int x2, .int x3] (c_X12_isSquare x2 x3 h2 e11) cv_RX12_165 (wl_119 h2) rfl rfl rfl (Nat.le_of_ble_eq_true rfl) (Nat.le_of_ble_eq_true rfl) dX12_odds_11 ?_
    refine qt_if_eq 37 dX12_odds_14 (by decide) E (fun E => ?_) (fun E => ?_)
    · refine qt_iconst dX12_odds_37 ci_m1 ?_
      exact qt_ireturn rfl (Nat.le_of_ble_eq_true rfl) dX12_odds_38 E G
    · refine qt_aload_n 0 dX12_odds_17 rfl rfl ?_
      refine qt_iload 4 dX12_odds_18 rfl ?_
      obtain ⟨c20, h20, e20, E⟩ := qbn_el E
      refine qt_callVi (b2 := 0) [.int x4] (c_X12_isSort x4 h11 e20) cv_RX12_410 (wl_119 h11) rfl rfl rfl (Nat.le_of_ble_eq_true rfl) (Nat.le_of_ble_eq_true rfl) dX12_odds_20 ?_
      refine qt_if_eq 37 dX12_odds_23 (by decide) E (fun E => ?_) (fun E => ?_)
      · refine qt_iconst dX12_odds_37 ci_m1 ?_
        exact qt_ireturn rfl (Nat.le_of_ble_eq_true rfl) dX12_odds_38 E G
      · refine qt_iload 5 dX12_odds_26 rfl ?_
        refine qt_i2l dX12_odds_28 ?_
        refine qt_lconst dX12_odds_29 cl_0 ?_
        refine qt_lconst dX12_odds_30 cl_1 ?_
        obtain ⟨c31, h31, e31, E⟩ := qbn_el E
        refine qt_callSi (b2 := 0) [.long x5.toInt64, .long (0 : Int64), .long (1 : Int64)] (c_X12_in x5.toInt64 (0 : Int64) (1 : Int64) h20 e31) cv_RX12_161 rfl (Nat.le_of_ble_eq_true rfl) (Nat.le_of_ble_eq_true rfl) dX12_odds_31 ?_
        refine qt_if_ne 39 dX12_odds_34 (by decide) E (fun E => ?_) (fun E => ?_)
        · refine qt_aload_n 0 dX12_odds_39 rfl rfl ?_
          refine qt_iload_n 1 dX12_odds_40 rfl rfl ?_
          refine qt_bipush dX12_odds_41 cb_6 ?_
          refine qt_iload_n 3 dX12_odds_43 rfl rfl ?_
          refine qt_imul dX12_odds_44 ?_
          refine qt_iload_n 2 dX12_odds_45 rfl rfl ?_
          refine qt_iadd dX12_odds_46 ?_
          refine qt_iload 4 dX12_odds_47 rfl ?_
          obtain ⟨h49, e49, E⟩ := qbv_el E
          refine qt_callVv (b2 := 0) [.int x1, .int (((6 : Int32) * x3) + x2), .int x4] (c_X12_counts x1 (((6 : Int32) * x3) + x2) x4 h31 e49) cv_RX12_467 (wl_119 h31) rfl rfl rfl (Nat.le_of_ble_eq_true rfl) (Nat.le_of_ble_eq_true rfl) dX12_odds_49 ?_
          refine qt_aload_n 0 dX12_odds_52 rfl rfl ?_
          refine qt_getI (wl_119 h49) fe_RX12_461 rfl dX12_odds_53 ?_
          refine qt_if_ne 62 dX12_odds_56 (by decide) E (fun E => ?_) (fun E => ?_)
          · refine qt_aload_n 0 dX12_odds_62 rfl rfl ?_
            refine qt_getI (wl_119 h49) fe_RX12_461 rfl dX12_odds_63 ?_
            refine qt_aload_n 0 dX12_odds_66 rfl rfl ?_
            refine qt_getI (wl_119 h49) fe_RX12_458 rfl dX12_odds_67 ?_
            obtain ⟨c70, h70, e70, E⟩ := qbn_el E
            refine qt_callSi (b2 := 0) [.int (h49.1 119 51), .int (h49.1 119 50)] (c_X12_divisor (h49.1 119 51) (h49.1 119 50) h49 e70) cv_RX12_471 rfl (Nat.le_of_ble_eq_true rfl) (Nat.le_of_ble_eq_true rfl) dX12_odds_70 ?_
            refine qt_istore (fun v73 => [(6, .int v73), (0, .ref (g.1 + 119)), (1, .int x1), (2, .int x2), (3, .int x3), (4, .int x4), (5, .int x5)]) dX12_odds_73 (Nat.le_of_ble_eq_true rfl) (fun _ => rfl) E (fun v73 E => ?_)
            refine qt_iload 6 dX12_odds_75 rfl ?_
            refine qt_if_ne 90 dX12_odds_77 (by decide) E (fun E => ?_) (fun E => ?_)
            · refine qt_aload_n 1 dX12_odds_90 rfl rfl ?_
              refine qt_getI (wl_119 h70) fe_RX12_458 rfl dX12_odds_91 ?_
              refine qt_iload 0 dX12_odds_94 rfl ?_
              refine qt_idiv dX12_odds_96 E (fun E => ?_)
              exact qt_ireturn rfl (Nat.le_of_ble_eq_true rfl) dX12_odds_97 E G
            · refine qt_aload_n 1 dX12_odds_80 rfl rfl ?_
              refine qt_getI (wl_119 h70) fe_RX12_461 rfl dX12_odds_81 ?_
              refine qt_iload 0 dX12_odds_84 rfl ?_
              refine qt_idiv dX12_odds_86 E (fun E => ?_)
              refine qt_goto 97 dX12_odds_87 (by decide) ?_
              exact qt_ireturn rfl (Nat.le_of_ble_eq_true rfl) dX12_odds_97 E G
          · refine qt_iload 5 dX12_odds_59 rfl ?_
            exact qt_ireturn rfl (Nat.le_of_ble_eq_true rfl) dX12_odds_61 E G
        · refine qt_iconst dX12_odds_37 ci_m1 ?_
          exact qt_ireturn rfl (Nat.le_of_ble_eq_true rfl) dX12_odds_38 E G
noncomputable def f_X12_laying_b58 (x3 : Int32) (h : qa_M) : Option (Int32 × qa_M) :=
  qck x3 4 (
  some (h.1 151 x3.toNatClampNeg, h))
set_option maxRecDepth 20000 in
theorem s_X12_laying_b58 {l : Launch} {g : qa_G} {d : Nat} {rz : Option Value} {hz : qa_M} (x3 : Int32) (h : qa_M) {z : (Int32 × qa_M)} (E : f_X12_laying_b58 x3 h = some z) (G : (qg_i rz hz) z) : qt_At l g (yX12_laying, cX12_laying, 5, (some .int)) (d + 7) 0 0 58 [(0, .ref (g.1 + 119)), (3, .int x3)] [] h rz hz := by
  unfold f_X12_laying_b58 at E
  refine qt_aload_n 0 dX12_laying_58 rfl rfl ?_
  refine qt_getS 151 (wl_119 h) fe_RX12_109 rfl dX12_laying_59 ?_
  refine qt_iload_n 1 dX12_laying_62 rfl rfl ?_
  refine qt_iald (wl_151 h) dX12_laying_63 E (fun E => ?_)
  exact qt_ireturn rfl (Nat.le_of_ble_eq_true rfl) dX12_laying_64 E G
noncomputable def f_X12_laying_b44 (x1 : Int32) (x2 : Int32) (x3 : Int32) (x4 : Int32) (h : qa_M) : Option ((Int32 × Int32 × Int32 × Int32 × qa_M) ⊕ (Int32 × qa_M)) :=
  qbn (m_X12_goesTo x1 h) (fun (c46 : Int32) (h46 : qa_M) =>
  if c46 = 0 then (
   qup (some ((-2 : Int32), h46)))
  else (
   if x4 = x2 then (
    qup (f_X12_laying_b58 x3 h46))
   else (
    qbd (x4 + (1 : Int32)) (fun v65 : Int32 =>
    some (.inl (x1, x2, x3, v65, h46))))))
set_option maxRecDepth 20000 in
theorem s_X12_laying_b44 {l : Launch} {g : qa_G} {d : Nat} {rz : Option Value} {hz : qa_M} (x1 : Int32) (x2 : Int32) (x3 : Int32) (x4 : Int32) (h : qa_M) {z : ((Int32 × Int32 × Int32 × Int32 × qa_M) ⊕ (Int32 × qa_M))} (E : f_X12_laying_b44 x1 x2 x3 x4 h = some z) (G : (Sum.elim (fun (sz : Int32 × Int32 × Int32 × Int32 × qa_M) => qt_At l g (yX12_laying, cX12_laying, 5, (some .int)) (d + 7) 0 0 44 [(0, .ref (g.1 + 119)), (1, .int sz.1), (2, .int sz.2.1), (3, .int sz.2.2.1), (4, .int sz.2.2.2.1)] [] sz.2.2.2.2 rz hz) (qg_i rz hz)) z) : qt_At l g (yX12_laying, cX12_laying, 5, (some .int)) (d + 7) 0 0 44 [(0, .ref (g.1 + 119)), (1, .int x1), (2, .int x2), (3, .int x3), (4, .int x4)] [] h rz hz := by
  unfold f_X12_laying_b44 at E
  refine qt_aload_n 0 dX12_laying_44 rfl rfl ?_
  refine qt_iload_n 1 dX12_laying_45 rfl rfl ?_
  obtain ⟨c46, h46, e46, E⟩ := qbn_el E
  refine qt_callVi (b2 := 0) [.int x1] (c_X12_goesTo x1 h e46) cv_RX12_449 (wl_119 h) rfl rfl rfl (Nat.le_of_ble_eq_true rfl) (Nat.le_of_ble_eq_true rfl) dX12_laying_46 ?_
  refine qt_if_eq 71 dX12_laying_49 (by decide) E (fun E => ?_) (fun E => ?_)
  · refine qt_bipush dX12_laying_71 cb_m2 ?_
    obtain ⟨z0_, E, G⟩ := qup_g E G
    exact qt_ireturn rfl (Nat.le_of_ble_eq_true rfl) dX12_laying_73 E G
  · refine qt_iload 4 dX12_laying_52 rfl ?_
    refine qt_iload_n 2 dX12_laying_54 rfl rfl ?_
    refine qt_icmp_ne 65 dX12_laying_55 (by decide) E (fun E => ?_) (fun E => ?_)
    · refine qt_iinc 4 (fun v65 => [(4, .int v65), (0, .ref (g.1 + 119)), (1, .int x1), (2, .int x2), (3, .int x3)]) dX12_laying_65 rfl ci_1 (Nat.le_of_ble_eq_true rfl) (fun _ => rfl) E (fun v65 E => ?_)
      refine qt_goto 44 dX12_laying_68 (by decide) ?_
      cases E
      exact qt_sub _ [1, 2, 3, 4, 0] rfl (G)
    · obtain ⟨z0_, E, G⟩ := qup_g E G
      exact qt_sub _ [0, 3] rfl ((s_X12_laying_b58 x3 h46 E G))
noncomputable def f_X12_laying_b44_loop (x1 : Int32) (x2 : Int32) (x3 : Int32) (x4 : Int32) (h : qa_M) : Option (Int32 × qa_M) := qlp (fun sz : Int32 × Int32 × Int32 × Int32 × qa_M => f_X12_laying_b44 sz.1 sz.2.1 sz.2.2.1 sz.2.2.2.1 sz.2.2.2.2) (x1, x2, x3, x4, h)
theorem s_X12_laying_b44_loop {l : Launch} {g : qa_G} {d : Nat} {rz : Option Value} {hz : qa_M} (x1 : Int32) (x2 : Int32) (x3 : Int32) (x4 : Int32) (h : qa_M) {z : (Int32 × qa_M)} (E : f_X12_laying_b44_loop x1 x2 x3 x4 h = some z) (G : (qg_i rz hz) z) : qt_At l g (yX12_laying, cX12_laying, 5, (some .int)) (d + 7) 0 0 44 [(0, .ref (g.1 + 119)), (1, .int x1), (2, .int x2), (3, .int x3), (4, .int x4)] [] h rz hz :=
  qlp_ind (fun sz : Int32 × Int32 × Int32 × Int32 × qa_M => qt_At l g (yX12_laying, cX12_laying, 5, (some .int)) (d + 7) 0 0 44 [(0, .ref (g.1 + 119)), (1, .int sz.1), (2, .int sz.2.1), (3, .int sz.2.2.1), (4, .int sz.2.2.2.1)] [] sz.2.2.2.2 rz hz) (fun sz E => s_X12_laying_b44 sz.1 sz.2.1 sz.2.2.1 sz.2.2.2.1 sz.2.2.2.2 E G) (fun sz sz2 E ih => s_X12_laying_b44 sz.1 sz.2.1 sz.2.2.1 sz.2.2.2.1 sz.2.2.2.2 E ih) (x1, x2, x3, x4, h) E
noncomputable def m_X12_laying (x1 : Int32) (x2 : Int32) (x3 : Int32) (h : qa_M) : Option (Int32 × qa_M) :=
  qbn (m_X12_isSet x1 h) (fun (c2 : Int32) (h2 : qa_M) =>
  if c2 = 0 then (
   some ((-1 : Int32), h2))
  else (
   if x2 < 0 then (
    some ((-1 : Int32), h2))
   else (
    qbn (m_X12_in x3.toInt64 (0 : Int64) (3 : Int64) h2) (fun (c18 : Int32) (h18 : qa_M) =>
    if c18 = 0 then (
     some ((-1 : Int32), h18))
    else (
     qbv (m_X12_beginsLayings h18) (fun h27 : qa_M =>
     if x3 < (h27.1 119 48) then (
      qbd (0 : Int32) (fun v42 : Int32 =>
      f_X12_laying_b44_loop x1 x2 x3 v42 h27))
     else (
      some ((-2 : Int32), h27))))))))
set_option maxRecDepth 20000 in
theorem c_X12_laying {l : Launch} {g : qa_G} {d : Nat} (x1 : Int32) (x2 : Int32) (x3 : Int32) (h : qa_M) {c : Int32} {h1 : qa_M} (E : m_X12_laying x1 x2 x3 h = some (c, h1)) : qt_Met l g (yX12_laying, cX12_laying, 5, (some .int)) (d + 7) 0 [.ref (g.1 + 119), .int x1, .int x2, .int x3] h (some (.int c)) h1 := by
  refine qt_Met.of (plainFor_of_name (by decide)) (Nat.le_of_ble_eq_true rfl) ?_
  have G : qg_i (some (.int c)) h1 ((c, h1)) := ⟨rfl, rfl⟩
  unfold m_X12_laying at E
  refine qt_aload_n 0 dX12_laying_0 rfl rfl ?_
  refine qt_iload_n 1 dX12_laying_1 rfl rfl ?_
  obtain ⟨c2, h2, e2, E⟩ := qbn_el E
  refine qt_callVi (b2 := 0) [.int x1] (c_X12_isSet x1 h e2) cv_RX12_452 (wl_119 h) rfl rfl rfl (Nat.le_of_ble_eq_true rfl) (Nat.le_of_ble_eq_true rfl) dX12_laying_2 ?_
  refine qt_if_eq 24 dX12_laying_5 (by decide) E (fun E => ?_) (fun E => ?_)
  · refine qt_iconst dX12_laying_24 ci_m1 ?_
    exact qt_ireturn rfl (Nat.le_of_ble_eq_true rfl) dX12_laying_25 E G
  · refine qt_iload_n 2 dX12_laying_8 rfl rfl ?_
    refine qt_if_lt 24 dX12_laying_9 (by decide) E (fun E => ?_) (fun E => ?_)
    · refine qt_iconst dX12_laying_24 ci_m1 ?_
      exact qt_ireturn rfl (Nat.le_of_ble_eq_true rfl) dX12_laying_25 E G
    · refine qt_iload_n 3 dX12_laying_12 rfl rfl ?_
      refine qt_i2l dX12_laying_13 ?_
      refine qt_lconst dX12_laying_14 cl_0 ?_
      refine qt_ldc2 tb_1808 dX12_laying_15 ?_
      obtain ⟨c18, h18, e18, E⟩ := qbn_el E
      refine qt_callSi (b2 := 0) [.long x3.toInt64, .long (0 : Int64), .long (3 : Int64)] (c_X12_in x3.toInt64 (0 : Int64) (3 : Int64) h2 e18) cv_RX12_161 rfl (Nat.le_of_ble_eq_true rfl) (Nat.le_of_ble_eq_true rfl) dX12_laying_18 ?_
      refine qt_if_ne 26 dX12_laying_21 (by decide) E (fun E => ?_) (fun E => ?_)
      · refine qt_aload_n 0 dX12_laying_26 rfl rfl ?_
        obtain ⟨h27, e27, E⟩ := qbv_el E
        refine qt_callVv (b2 := 0) [] (c_X12_beginsLayings h18 e27) cv_RX12_446 (wl_119 h18) rfl rfl rfl (Nat.le_of_ble_eq_true rfl) (Nat.le_of_ble_eq_true rfl) dX12_laying_27 ?_
        refine qt_iload_n 3 dX12_laying_30 rfl rfl ?_
        refine qt_aload_n 0 dX12_laying_31 rfl rfl ?_
        refine qt_getI (wl_119 h27) fe_RX12_424 rfl dX12_laying_32 ?_
        refine qt_icmp_lt 41 dX12_laying_35 (by decide) E (fun E => ?_) (fun E => ?_)
        · refine qt_iconst dX12_laying_41 ci_0 ?_
          refine qt_istore (fun v42 => [(4, .int v42), (0, .ref (g.1 + 119)), (1, .int x1), (2, .int x2), (3, .int x3)]) dX12_laying_42 (Nat.le_of_ble_eq_true rfl) (fun _ => rfl) E (fun v42 E => ?_)
          exact qt_sub _ [1, 2, 3, 4, 0] rfl ((s_X12_laying_b44_loop x1 x2 x3 v42 h27 E G))
        · refine qt_bipush dX12_laying_38 cb_m2 ?_
          exact qt_ireturn rfl (Nat.le_of_ble_eq_true rfl) dX12_laying_40 E G
      · refine qt_iconst dX12_laying_24 ci_m1 ?_
        exact qt_ireturn rfl (Nat.le_of_ble_eq_true rfl) dX12_laying_25 E G
noncomputable def f_X12_rows_b134 (x1 : Int32) (x2 : Int32) (x3 : Int32) (x4 : Int32) (s0 : Int32) (s1 : Int32) (h : qa_M) : Option ((Int32 × Int32 × Int32 × Int32 × Int32 × qa_M) ⊕ (Int32 × qa_M)) :=
  qbd (s0 + s1) (fun v135 : Int32 =>
  some (.inl (x1, x2, x3, x4, v135, h)))
set_option maxRecDepth 20000 in
theorem s_X12_rows_b134 {l : Launch} {g : qa_G} {d : Nat} {rz : Option Value} {hz : qa_M} (x1 : Int32) (x2 : Int32) (x3 : Int32) (x4 : Int32) (s0 : Int32) (s1 : Int32) (h : qa_M) {z : ((Int32 × Int32 × Int32 × Int32 × Int32 × qa_M) ⊕ (Int32 × qa_M))} (E : f_X12_rows_b134 x1 x2 x3 x4 s0 s1 h = some z) (G : (Sum.elim (fun (sz : Int32 × Int32 × Int32 × Int32 × Int32 × qa_M) => qt_At l g (yX12_rows, cX12_rows, 8, (some .int)) (d + 7) 0 0 56 [(0, .ref (g.1 + 119)), (1, .int sz.1), (2, .int sz.2.1), (3, .int sz.2.2.1), (4, .int sz.2.2.2.1), (5, .int sz.2.2.2.2.1)] [] sz.2.2.2.2.2 rz hz) (qg_i rz hz)) z) : qt_At l g (yX12_rows, cX12_rows, 8, (some .int)) (d + 7) 0 0 134 [(0, .ref (g.1 + 119)), (1, .int x1), (2, .int x2), (3, .int x3), (4, .int x4)] [.int s1, .int s0] h rz hz := by
  unfold f_X12_rows_b134 at E
  refine qt_iadd dX12_rows_134 ?_
  refine qt_istore (fun v135 => [(5, .int v135), (0, .ref (g.1 + 119)), (1, .int x1), (2, .int x2), (3, .int x3), (4, .int x4)]) dX12_rows_135 (Nat.le_of_ble_eq_true rfl) (fun _ => rfl) E (fun v135 E => ?_)
  refine qt_goto 56 dX12_rows_137 (by decide) ?_
  cases E
  exact qt_sub _ [1, 2, 3, 4, 5, 0] rfl (G)
noncomputable def f_X12_rows_b120 (x1 : Int32) (x2 : Int32) (x3 : Int32) (x4 : Int32) (x5 : Int32) (x6 : Int32) (h : qa_M) : Option ((Int32 × Int32 × Int32 × Int32 × Int32 × qa_M) ⊕ (Int32 × qa_M)) :=
  if x6 = x4 then (
   f_X12_rows_b134 x1 x2 x3 x4 x5 (1 : Int32) h)
  else (
   f_X12_rows_b134 x1 x2 x3 x4 x5 (0 : Int32) h)
set_option maxRecDepth 20000 in
theorem s_X12_rows_b120 {l : Launch} {g : qa_G} {d : Nat} {rz : Option Value} {hz : qa_M} (x1 : Int32) (x2 : Int32) (x3 : Int32) (x4 : Int32) (x5 : Int32) (x6 : Int32) (h : qa_M) {z : ((Int32 × Int32 × Int32 × Int32 × Int32 × qa_M) ⊕ (Int32 × qa_M))} (E : f_X12_rows_b120 x1 x2 x3 x4 x5 x6 h = some z) (G : (Sum.elim (fun (sz : Int32 × Int32 × Int32 × Int32 × Int32 × qa_M) => qt_At l g (yX12_rows, cX12_rows, 8, (some .int)) (d + 7) 0 0 56 [(0, .ref (g.1 + 119)), (1, .int sz.1), (2, .int sz.2.1), (3, .int sz.2.2.1), (4, .int sz.2.2.2.1), (5, .int sz.2.2.2.2.1)] [] sz.2.2.2.2.2 rz hz) (qg_i rz hz)) z) : qt_At l g (yX12_rows, cX12_rows, 8, (some .int)) (d + 7) 0 0 120 [(0, .ref (g.1 + 119)), (1, .int x1), (2, .int x2), (3, .int x3), (4, .int x4), (5, .int x5), (6, .int x6)] [] h rz hz := by
  unfold f_X12_rows_b120 at E
  refine qt_iload 5 dX12_rows_120 rfl ?_
  refine qt_iload 6 dX12_rows_122 rfl ?_
  refine qt_iload 4 dX12_rows_124 rfl ?_
  refine qt_icmp_ne 133 dX12_rows_126 (by decide) E (fun E => ?_) (fun E => ?_)
  · refine qt_iconst dX12_rows_133 ci_0 ?_
    exact qt_sub _ [0, 1, 2, 3, 4] rfl ((s_X12_rows_b134 x1 x2 x3 x4 x5 (0 : Int32) h E G))
  · refine qt_iconst dX12_rows_129 ci_1 ?_
    refine qt_goto 134 dX12_rows_130 (by decide) ?_
    exact qt_sub _ [0, 1, 2, 3, 4] rfl ((s_X12_rows_b134 x1 x2 x3 x4 x5 (1 : Int32) h E G))
noncomputable def f_X12_rows_b111 (x1 : Int32) (x2 : Int32) (x3 : Int32) (x4 : Int32) (x5 : Int32) (x7 : Int32) (s0 : Int32) (s1 : Int32) (h : qa_M) : Option ((Int32 × Int32 × Int32 × Int32 × Int32 × Int32 × Int32 × qa_M) ⊕ ((Int32 × Int32 × Int32 × Int32 × Int32 × qa_M) ⊕ (Int32 × qa_M))) :=
  qbd (s0 + s1) (fun v112 : Int32 =>
  qbd (x7 + (1 : Int32)) (fun v114 : Int32 =>
  some (.inl (x1, x2, x3, x4, x5, v112, v114, h))))
set_option maxRecDepth 20000 in
theorem s_X12_rows_b111 {l : Launch} {g : qa_G} {d : Nat} {rz : Option Value} {hz : qa_M} (x1 : Int32) (x2 : Int32) (x3 : Int32) (x4 : Int32) (x5 : Int32) (x7 : Int32) (s0 : Int32) (s1 : Int32) (h : qa_M) {z : ((Int32 × Int32 × Int32 × Int32 × Int32 × Int32 × Int32 × qa_M) ⊕ ((Int32 × Int32 × Int32 × Int32 × Int32 × qa_M) ⊕ (Int32 × qa_M)))} (E : f_X12_rows_b111 x1 x2 x3 x4 x5 x7 s0 s1 h = some z) (G : (Sum.elim (fun (sz : Int32 × Int32 × Int32 × Int32 × Int32 × Int32 × Int32 × qa_M) => qt_At l g (yX12_rows, cX12_rows, 8, (some .int)) (d + 7) 0 0 70 [(0, .ref (g.1 + 119)), (1, .int sz.1), (2, .int sz.2.1), (3, .int sz.2.2.1), (4, .int sz.2.2.2.1), (5, .int sz.2.2.2.2.1), (6, .int sz.2.2.2.2.2.1), (7, .int sz.2.2.2.2.2.2.1)] [] sz.2.2.2.2.2.2.2 rz hz) (Sum.elim (fun (sz : Int32 × Int32 × Int32 × Int32 × Int32 × qa_M) => qt_At l g (yX12_rows, cX12_rows, 8, (some .int)) (d + 7) 0 0 56 [(0, .ref (g.1 + 119)), (1, .int sz.1), (2, .int sz.2.1), (3, .int sz.2.2.1), (4, .int sz.2.2.2.1), (5, .int sz.2.2.2.2.1)] [] sz.2.2.2.2.2 rz hz) (qg_i rz hz))) z) : qt_At l g (yX12_rows, cX12_rows, 8, (some .int)) (d + 7) 0 0 111 [(0, .ref (g.1 + 119)), (1, .int x1), (2, .int x2), (3, .int x3), (4, .int x4), (5, .int x5), (7, .int x7)] [.int s1, .int s0] h rz hz := by
  unfold f_X12_rows_b111 at E
  refine qt_iadd dX12_rows_111 ?_
  refine qt_istore (fun v112 => [(6, .int v112), (0, .ref (g.1 + 119)), (1, .int x1), (2, .int x2), (3, .int x3), (4, .int x4), (5, .int x5), (7, .int x7)]) dX12_rows_112 (Nat.le_of_ble_eq_true rfl) (fun _ => rfl) E (fun v112 E => ?_)
  refine qt_iinc 7 (fun v114 => [(7, .int v114), (6, .int v112), (0, .ref (g.1 + 119)), (1, .int x1), (2, .int x2), (3, .int x3), (4, .int x4), (5, .int x5)]) dX12_rows_114 rfl ci_1 (Nat.le_of_ble_eq_true rfl) (fun _ => rfl) E (fun v114 E => ?_)
  refine qt_goto 70 dX12_rows_117 (by decide) ?_
  cases E
  exact qt_sub _ [2, 3, 4, 5, 6, 7, 1, 0] rfl (G)
noncomputable def f_X12_rows_b110 (x1 : Int32) (x2 : Int32) (x3 : Int32) (x4 : Int32) (x5 : Int32) (x7 : Int32) (s0 : Int32) (h : qa_M) : Option ((Int32 × Int32 × Int32 × Int32 × Int32 × Int32 × Int32 × qa_M) ⊕ ((Int32 × Int32 × Int32 × Int32 × Int32 × qa_M) ⊕ (Int32 × qa_M))) :=
  f_X12_rows_b111 x1 x2 x3 x4 x5 x7 s0 (0 : Int32) h
set_option maxRecDepth 20000 in
theorem s_X12_rows_b110 {l : Launch} {g : qa_G} {d : Nat} {rz : Option Value} {hz : qa_M} (x1 : Int32) (x2 : Int32) (x3 : Int32) (x4 : Int32) (x5 : Int32) (x7 : Int32) (s0 : Int32) (h : qa_M) {z : ((Int32 × Int32 × Int32 × Int32 × Int32 × Int32 × Int32 × qa_M) ⊕ ((Int32 × Int32 × Int32 × Int32 × Int32 × qa_M) ⊕ (Int32 × qa_M)))} (E : f_X12_rows_b110 x1 x2 x3 x4 x5 x7 s0 h = some z) (G : (Sum.elim (fun (sz : Int32 × Int32 × Int32 × Int32 × Int32 × Int32 × Int32 × qa_M) => qt_At l g (yX12_rows, cX12_rows, 8, (some .int)) (d + 7) 0 0 70 [(0, .ref (g.1 + 119)), (1, .int sz.1), (2, .int sz.2.1), (3, .int sz.2.2.1), (4, .int sz.2.2.2.1), (5, .int sz.2.2.2.2.1), (6, .int sz.2.2.2.2.2.1), (7, .int sz.2.2.2.2.2.2.1)] [] sz.2.2.2.2.2.2.2 rz hz) (Sum.elim (fun (sz : Int32 × Int32 × Int32 × Int32 × Int32 × qa_M) => qt_At l g (yX12_rows, cX12_rows, 8, (some .int)) (d + 7) 0 0 56 [(0, .ref (g.1 + 119)), (1, .int sz.1), (2, .int sz.2.1), (3, .int sz.2.2.1), (4, .int sz.2.2.2.1), (5, .int sz.2.2.2.2.1)] [] sz.2.2.2.2.2 rz hz) (qg_i rz hz))) z) : qt_At l g (yX12_rows, cX12_rows, 8, (some .int)) (d + 7) 0 0 110 [(0, .ref (g.1 + 119)), (1, .int x1), (2, .int x2), (3, .int x3), (4, .int x4), (5, .int x5), (7, .int x7)] [.int s0] h rz hz := by
  unfold f_X12_rows_b110 at E
  refine qt_iconst dX12_rows_110 ci_0 ?_
  exact qt_sub _ [0, 1, 2, 3, 4, 5, 6] rfl ((s_X12_rows_b111 x1 x2 x3 x4 x5 x7 s0 (0 : Int32) h E G))
noncomputable def f_X12_rows_b70 (x1 : Int32) (x2 : Int32) (x3 : Int32) (x4 : Int32) (x5 : Int32) (x6 : Int32) (x7 : Int32) (h : qa_M) : Option ((Int32 × Int32 × Int32 × Int32 × Int32 × Int32 × Int32 × qa_M) ⊕ ((Int32 × Int32 × Int32 × Int32 × Int32 × qa_M) ⊕ (Int32 × qa_M))) :=
  if (h.1 119 48) ≤ x7 then (
   qup (f_X12_rows_b120 x1 x2 x3 x4 x5 x6 h))
  else (
   qck x7 4 (
   if (h.1 152 x7.toNatClampNeg) = x2 then (
    qck x7 4 (
    if ((h.1 151 x7.toNatClampNeg) / (6 : Int32)) = x3 then (
     f_X12_rows_b111 x1 x2 x3 x4 x5 x7 x6 (1 : Int32) h)
    else (
     f_X12_rows_b110 x1 x2 x3 x4 x5 x7 x6 h)))
   else (
    f_X12_rows_b110 x1 x2 x3 x4 x5 x7 x6 h)))
set_option maxRecDepth 20000 in
theorem s_X12_rows_b70 {l : Launch} {g : qa_G} {d : Nat} {rz : Option Value} {hz : qa_M} (x1 : Int32) (x2 : Int32) (x3 : Int32) (x4 : Int32) (x5 : Int32) (x6 : Int32) (x7 : Int32) (h : qa_M) {z : ((Int32 × Int32 × Int32 × Int32 × Int32 × Int32 × Int32 × qa_M) ⊕ ((Int32 × Int32 × Int32 × Int32 × Int32 × qa_M) ⊕ (Int32 × qa_M)))} (E : f_X12_rows_b70 x1 x2 x3 x4 x5 x6 x7 h = some z) (G : (Sum.elim (fun (sz : Int32 × Int32 × Int32 × Int32 × Int32 × Int32 × Int32 × qa_M) => qt_At l g (yX12_rows, cX12_rows, 8, (some .int)) (d + 7) 0 0 70 [(0, .ref (g.1 + 119)), (1, .int sz.1), (2, .int sz.2.1), (3, .int sz.2.2.1), (4, .int sz.2.2.2.1), (5, .int sz.2.2.2.2.1), (6, .int sz.2.2.2.2.2.1), (7, .int sz.2.2.2.2.2.2.1)] [] sz.2.2.2.2.2.2.2 rz hz) (Sum.elim (fun (sz : Int32 × Int32 × Int32 × Int32 × Int32 × qa_M) => qt_At l g (yX12_rows, cX12_rows, 8, (some .int)) (d + 7) 0 0 56 [(0, .ref (g.1 + 119)), (1, .int sz.1), (2, .int sz.2.1), (3, .int sz.2.2.1), (4, .int sz.2.2.2.1), (5, .int sz.2.2.2.2.1)] [] sz.2.2.2.2.2 rz hz) (qg_i rz hz))) z) : qt_At l g (yX12_rows, cX12_rows, 8, (some .int)) (d + 7) 0 0 70 [(0, .ref (g.1 + 119)), (1, .int x1), (2, .int x2), (3, .int x3), (4, .int x4), (5, .int x5), (6, .int x6), (7, .int x7)] [] h rz hz := by
  unfold f_X12_rows_b70 at E
  refine qt_iload 7 dX12_rows_70 rfl ?_
  refine qt_aload_n 0 dX12_rows_72 rfl rfl ?_
  refine qt_getI (wl_119 h) fe_RX12_424 rfl dX12_rows_73 ?_
  refine qt_icmp_ge 120 dX12_rows_76 (by decide) E (fun E => ?_) (fun E => ?_)
  · obtain ⟨z0_, E, G⟩ := qup_g E G
    exact qt_sub _ [0, 1, 2, 3, 4, 5, 6] rfl ((s_X12_rows_b120 x1 x2 x3 x4 x5 x6 h E G))
  · refine qt_iload 6 dX12_rows_79 rfl ?_
    refine qt_aload_n 0 dX12_rows_81 rfl rfl ?_
    refine qt_getS 152 (wl_119 h) fe_RX12_112 rfl dX12_rows_82 ?_
    refine qt_iload 7 dX12_rows_85 rfl ?_
    refine qt_iald (wl_152 h) dX12_rows_87 E (fun E => ?_)
    refine qt_iload_n 2 dX12_rows_88 rfl rfl ?_
    refine qt_icmp_ne 110 dX12_rows_89 (by decide) E (fun E => ?_) (fun E => ?_)
    · exact qt_sub _ [0, 1, 2, 3, 4, 5, 7] rfl ((s_X12_rows_b110 x1 x2 x3 x4 x5 x7 x6 h E G))
    · refine qt_aload_n 0 dX12_rows_92 rfl rfl ?_
      refine qt_getS 151 (wl_119 h) fe_RX12_109 rfl dX12_rows_93 ?_
      refine qt_iload 7 dX12_rows_96 rfl ?_
      refine qt_iald (wl_151 h) dX12_rows_98 E (fun E => ?_)
      refine qt_bipush dX12_rows_99 cb_6 ?_
      refine qt_idivK dX12_rows_101 (by decide) ?_
      refine qt_iload_n 3 dX12_rows_102 rfl rfl ?_
      refine qt_icmp_ne 110 dX12_rows_103 (by decide) E (fun E => ?_) (fun E => ?_)
      · exact qt_sub _ [0, 1, 2, 3, 4, 5, 7] rfl ((s_X12_rows_b110 x1 x2 x3 x4 x5 x7 x6 h E G))
      · refine qt_iconst dX12_rows_106 ci_1 ?_
        refine qt_goto 111 dX12_rows_107 (by decide) ?_
        exact qt_sub _ [0, 1, 2, 3, 4, 5, 7] rfl ((s_X12_rows_b111 x1 x2 x3 x4 x5 x7 x6 (1 : Int32) h E G))
noncomputable def f_X12_rows_b70_loop (x1 : Int32) (x2 : Int32) (x3 : Int32) (x4 : Int32) (x5 : Int32) (x6 : Int32) (x7 : Int32) (h : qa_M) : Option ((Int32 × Int32 × Int32 × Int32 × Int32 × qa_M) ⊕ (Int32 × qa_M)) := qlp (fun sz : Int32 × Int32 × Int32 × Int32 × Int32 × Int32 × Int32 × qa_M => f_X12_rows_b70 sz.1 sz.2.1 sz.2.2.1 sz.2.2.2.1 sz.2.2.2.2.1 sz.2.2.2.2.2.1 sz.2.2.2.2.2.2.1 sz.2.2.2.2.2.2.2) (x1, x2, x3, x4, x5, x6, x7, h)
theorem s_X12_rows_b70_loop {l : Launch} {g : qa_G} {d : Nat} {rz : Option Value} {hz : qa_M} (x1 : Int32) (x2 : Int32) (x3 : Int32) (x4 : Int32) (x5 : Int32) (x6 : Int32) (x7 : Int32) (h : qa_M) {z : ((Int32 × Int32 × Int32 × Int32 × Int32 × qa_M) ⊕ (Int32 × qa_M))} (E : f_X12_rows_b70_loop x1 x2 x3 x4 x5 x6 x7 h = some z) (G : (Sum.elim (fun (sz : Int32 × Int32 × Int32 × Int32 × Int32 × qa_M) => qt_At l g (yX12_rows, cX12_rows, 8, (some .int)) (d + 7) 0 0 56 [(0, .ref (g.1 + 119)), (1, .int sz.1), (2, .int sz.2.1), (3, .int sz.2.2.1), (4, .int sz.2.2.2.1), (5, .int sz.2.2.2.2.1)] [] sz.2.2.2.2.2 rz hz) (qg_i rz hz)) z) : qt_At l g (yX12_rows, cX12_rows, 8, (some .int)) (d + 7) 0 0 70 [(0, .ref (g.1 + 119)), (1, .int x1), (2, .int x2), (3, .int x3), (4, .int x4), (5, .int x5), (6, .int x6), (7, .int x7)] [] h rz hz :=
  qlp_ind (fun sz : Int32 × Int32 × Int32 × Int32 × Int32 × Int32 × Int32 × qa_M => qt_At l g (yX12_rows, cX12_rows, 8, (some .int)) (d + 7) 0 0 70 [(0, .ref (g.1 + 119)), (1, .int sz.1), (2, .int sz.2.1), (3, .int sz.2.2.1), (4, .int sz.2.2.2.1), (5, .int sz.2.2.2.2.1), (6, .int sz.2.2.2.2.2.1), (7, .int sz.2.2.2.2.2.2.1)] [] sz.2.2.2.2.2.2.2 rz hz) (fun sz E => s_X12_rows_b70 sz.1 sz.2.1 sz.2.2.1 sz.2.2.2.1 sz.2.2.2.2.1 sz.2.2.2.2.2.1 sz.2.2.2.2.2.2.1 sz.2.2.2.2.2.2.2 E G) (fun sz sz2 E ih => s_X12_rows_b70 sz.1 sz.2.1 sz.2.2.1 sz.2.2.2.1 sz.2.2.2.2.1 sz.2.2.2.2.2.1 sz.2.2.2.2.2.2.1 sz.2.2.2.2.2.2.2 E ih) (x1, x2, x3, x4, x5, x6, x7, h) E
noncomputable def f_X12_rows_b56 (x1 : Int32) (x2 : Int32) (x3 : Int32) (x4 : Int32) (x5 : Int32) (h : qa_M) : Option ((Int32 × Int32 × Int32 × Int32 × Int32 × qa_M) ⊕ (Int32 × qa_M)) :=
  qbn (m_X12_goesTo x1 h) (fun (c58 : Int32) (h58 : qa_M) =>
  if c58 = 0 then (
   qup (some (x5, h58)))
  else (
   qbd (0 : Int32) (fun v65 : Int32 =>
   qbd (0 : Int32) (fun v68 : Int32 =>
   f_X12_rows_b70_loop x1 x2 x3 x4 x5 v65 v68 h58))))
set_option maxRecDepth 20000 in
theorem s_X12_rows_b56 {l : Launch} {g : qa_G} {d : Nat} {rz : Option Value} {hz : qa_M} (x1 : Int32) (x2 : Int32) (x3 : Int32) (x4 : Int32) (x5 : Int32) (h : qa_M) {z : ((Int32 × Int32 × Int32 × Int32 × Int32 × qa_M) ⊕ (Int32 × qa_M))} (E : f_X12_rows_b56 x1 x2 x3 x4 x5 h = some z) (G : (Sum.elim (fun (sz : Int32 × Int32 × Int32 × Int32 × Int32 × qa_M) => qt_At l g (yX12_rows, cX12_rows, 8, (some .int)) (d + 7) 0 0 56 [(0, .ref (g.1 + 119)), (1, .int sz.1), (2, .int sz.2.1), (3, .int sz.2.2.1), (4, .int sz.2.2.2.1), (5, .int sz.2.2.2.2.1)] [] sz.2.2.2.2.2 rz hz) (qg_i rz hz)) z) : qt_At l g (yX12_rows, cX12_rows, 8, (some .int)) (d + 7) 0 0 56 [(0, .ref (g.1 + 119)), (1, .int x1), (2, .int x2), (3, .int x3), (4, .int x4), (5, .int x5)] [] h rz hz := by
  unfold f_X12_rows_b56 at E
  refine qt_aload_n 0 dX12_rows_56 rfl rfl ?_
  refine qt_iload_n 1 dX12_rows_57 rfl rfl ?_
  obtain ⟨c58, h58, e58, E⟩ := qbn_el E
  refine qt_callVi (b2 := 0) [.int x1] (c_X12_goesTo x1 h e58) cv_RX12_449 (wl_119 h) rfl rfl rfl (Nat.le_of_ble_eq_true rfl) (Nat.le_of_ble_eq_true rfl) dX12_rows_58 ?_
  refine qt_if_eq 140 dX12_rows_61 (by decide) E (fun E => ?_) (fun E => ?_)
  · refine qt_iload 5 dX12_rows_140 rfl ?_
    obtain ⟨z0_, E, G⟩ := qup_g E G
    exact qt_ireturn rfl (Nat.le_of_ble_eq_true rfl) dX12_rows_142 E G
  · refine qt_iconst dX12_rows_64 ci_0 ?_
    refine qt_istore (fun v65 => [(6, .int v65), (0, .ref (g.1 + 119)), (1, .int x1), (2, .int x2), (3, .int x3), (4, .int x4), (5, .int x5)]) dX12_rows_65 (Nat.le_of_ble_eq_true rfl) (fun _ => rfl) E (fun v65 E => ?_)
    refine qt_iconst dX12_rows_67 ci_0 ?_
    refine qt_istore (fun v68 => [(7, .int v68), (6, .int v65), (0, .ref (g.1 + 119)), (1, .int x1), (2, .int x2), (3, .int x3), (4, .int x4), (5, .int x5)]) dX12_rows_68 (Nat.le_of_ble_eq_true rfl) (fun _ => rfl) E (fun v68 E => ?_)
    exact qt_sub _ [2, 3, 4, 5, 6, 7, 1, 0] rfl ((s_X12_rows_b70_loop x1 x2 x3 x4 x5 v65 v68 h58 E G))
noncomputable def f_X12_rows_b56_loop (x1 : Int32) (x2 : Int32) (x3 : Int32) (x4 : Int32) (x5 : Int32) (h : qa_M) : Option (Int32 × qa_M) := qlp (fun sz : Int32 × Int32 × Int32 × Int32 × Int32 × qa_M => f_X12_rows_b56 sz.1 sz.2.1 sz.2.2.1 sz.2.2.2.1 sz.2.2.2.2.1 sz.2.2.2.2.2) (x1, x2, x3, x4, x5, h)
theorem s_X12_rows_b56_loop {l : Launch} {g : qa_G} {d : Nat} {rz : Option Value} {hz : qa_M} (x1 : Int32) (x2 : Int32) (x3 : Int32) (x4 : Int32) (x5 : Int32) (h : qa_M) {z : (Int32 × qa_M)} (E : f_X12_rows_b56_loop x1 x2 x3 x4 x5 h = some z) (G : (qg_i rz hz) z) : qt_At l g (yX12_rows, cX12_rows, 8, (some .int)) (d + 7) 0 0 56 [(0, .ref (g.1 + 119)), (1, .int x1), (2, .int x2), (3, .int x3), (4, .int x4), (5, .int x5)] [] h rz hz :=
  qlp_ind (fun sz : Int32 × Int32 × Int32 × Int32 × Int32 × qa_M => qt_At l g (yX12_rows, cX12_rows, 8, (some .int)) (d + 7) 0 0 56 [(0, .ref (g.1 + 119)), (1, .int sz.1), (2, .int sz.2.1), (3, .int sz.2.2.1), (4, .int sz.2.2.2.1), (5, .int sz.2.2.2.2.1)] [] sz.2.2.2.2.2 rz hz) (fun sz E => s_X12_rows_b56 sz.1 sz.2.1 sz.2.2.1 sz.2.2.2.1 sz.2.2.2.2.1 sz.2.2.2.2.2 E G) (fun sz sz2 E ih => s_X12_rows_b56 sz.1 sz.2.1 sz.2.2.1 sz.2.2.2.1 sz.2.2.2.2.1 sz.2.2.2.2.2 E ih) (x1, x2, x3, x4, x5, h) E
noncomputable def m_X12_rows (x1 : Int32) (x2 : Int32) (x3 : Int32) (x4 : Int32) (h : qa_M) : Option (Int32 × qa_M) :=
  qbn (m_X12_isSet x1 h) (fun (c2 : Int32) (h2 : qa_M) =>
  if c2 = 0 then (
   some ((-1 : Int32), h2))
  else (
   qbn (m_X12_isSort x2 h2) (fun (c10 : Int32) (h10 : qa_M) =>
   if c10 = 0 then (
    some ((-1 : Int32), h10))
   else (
    qck (1 : Int32) 8 (
    qbn (m_X12_in x3.toInt64 (0 : Int64) (((h10.1 120 (1 : Int32).toNatClampNeg) - (1 : Int32)).toInt64) h10) (fun (c28 : Int32) (h28 : qa_M) =>
    if c28 = 0 then (
     some ((-1 : Int32), h28))
    else (
     qbn (m_X12_in x4.toInt64 (0 : Int64) (4 : Int64) h28) (fun (c41 : Int32) (h41 : qa_M) =>
     if c41 = 0 then (
      some ((-1 : Int32), h41))
     else (
      qbv (m_X12_beginsLayings h41) (fun h50 : qa_M =>
      qbd (0 : Int32) (fun v54 : Int32 =>
      f_X12_rows_b56_loop x1 x2 x3 x4 v54 h50)))))))))))
set_option maxRecDepth 20000 in
theorem c_X12_rows {l : Launch} {g : qa_G} {d : Nat} (x1 : Int32) (x2 : Int32) (x3 : Int32) (x4 : Int32) (h : qa_M) {c : Int32} {h1 : qa_M} (E : m_X12_rows x1 x2 x3 x4 h = some (c, h1)) : qt_Met l g (yX12_rows, cX12_rows, 8, (some .int)) (d + 7) 0 [.ref (g.1 + 119), .int x1, .int x2, .int x3, .int x4] h (some (.int c)) h1 := by
  refine qt_Met.of (plainFor_of_name (by decide)) (Nat.le_of_ble_eq_true rfl) ?_
  have G : qg_i (some (.int c)) h1 ((c, h1)) := ⟨rfl, rfl⟩
  unfold m_X12_rows at E
  refine qt_aload_n 0 dX12_rows_0 rfl rfl ?_
  refine qt_iload_n 1 dX12_rows_1 rfl rfl ?_
  obtain ⟨c2, h2, e2, E⟩ := qbn_el E
  refine qt_callVi (b2 := 0) [.int x1] (c_X12_isSet x1 h e2) cv_RX12_452 (wl_119 h) rfl rfl rfl (Nat.le_of_ble_eq_true rfl) (Nat.le_of_ble_eq_true rfl) dX12_rows_2 ?_
  refine qt_if_eq 47 dX12_rows_5 (by decide) E (fun E => ?_) (fun E => ?_)
  · refine qt_iconst dX12_rows_47 ci_m1 ?_
    exact qt_ireturn rfl (Nat.le_of_ble_eq_true rfl) dX12_rows_48 E G
  · refine qt_aload_n 0 dX12_rows_8 rfl rfl ?_
    refine qt_iload_n 2 dX12_rows_9 rfl rfl ?_
    obtain ⟨c10, h10, e10, E⟩ := qbn_el E
    refine qt_callVi (b2 := 0) [.int x2] (c_X12_isSort x2 h2 e10) cv_RX12_410 (wl_119 h2) rfl rfl rfl (Nat.le_of_ble_eq_true rfl) (Nat.le_of_ble_eq_true rfl) dX12_rows_10 ?_
    refine qt_if_eq 47 dX12_rows_13 (by decide) E (fun E => ?_) (fun E => ?_)
    · refine qt_iconst dX12_rows_47 ci_m1 ?_
      exact qt_ireturn rfl (Nat.le_of_ble_eq_true rfl) dX12_rows_48 E G
    · refine qt_iload_n 3 dX12_rows_16 rfl rfl ?_
      refine qt_i2l dX12_rows_17 ?_
      refine qt_lconst dX12_rows_18 cl_0 ?_
      refine qt_aload_n 0 dX12_rows_19 rfl rfl ?_
      refine qt_getS 120 (wl_119 h10) fe_RX12_7 rfl dX12_rows_20 ?_
      refine qt_iconst dX12_rows_23 ci_1 ?_
      refine qt_iald (wl_120 h10) dX12_rows_24 E (fun E => ?_)
      refine qt_iconst dX12_rows_25 ci_1 ?_
      refine qt_isub dX12_rows_26 ?_
      refine qt_i2l dX12_rows_27 ?_
      obtain ⟨c28, h28, e28, E⟩ := qbn_el E
      refine qt_callSi (b2 := 0) [.long x3.toInt64, .long (0 : Int64), .long (((h10.1 120 (1 : Int32).toNatClampNeg) - (1 : Int32)).toInt64)] (c_X12_in x3.toInt64 (0 : Int64) (((h10.1 120 (1 : Int32).toNatClampNeg) - (1 : Int32)).toInt64) h10 e28) cv_RX12_161 rfl (Nat.le_of_ble_eq_true rfl) (Nat.le_of_ble_eq_true rfl) dX12_rows_28 ?_
      refine qt_if_eq 47 dX12_rows_31 (by decide) E (fun E => ?_) (fun E => ?_)
      · refine qt_iconst dX12_rows_47 ci_m1 ?_
        exact qt_ireturn rfl (Nat.le_of_ble_eq_true rfl) dX12_rows_48 E G
      · refine qt_iload 4 dX12_rows_34 rfl ?_
        refine qt_i2l dX12_rows_36 ?_
        refine qt_lconst dX12_rows_37 cl_0 ?_
        refine qt_ldc2 tb_1880 dX12_rows_38 ?_
        obtain ⟨c41, h41, e41, E⟩ := qbn_el E
        refine qt_callSi (b2 := 0) [.long x4.toInt64, .long (0 : Int64), .long (4 : Int64)] (c_X12_in x4.toInt64 (0 : Int64) (4 : Int64) h28 e41) cv_RX12_161 rfl (Nat.le_of_ble_eq_true rfl) (Nat.le_of_ble_eq_true rfl) dX12_rows_41 ?_
        refine qt_if_ne 49 dX12_rows_44 (by decide) E (fun E => ?_) (fun E => ?_)
        · refine qt_aload_n 0 dX12_rows_49 rfl rfl ?_
          obtain ⟨h50, e50, E⟩ := qbv_el E
          refine qt_callVv (b2 := 0) [] (c_X12_beginsLayings h41 e50) cv_RX12_446 (wl_119 h41) rfl rfl rfl (Nat.le_of_ble_eq_true rfl) (Nat.le_of_ble_eq_true rfl) dX12_rows_50 ?_
          refine qt_iconst dX12_rows_53 ci_0 ?_
          refine qt_istore (fun v54 => [(5, .int v54), (0, .ref (g.1 + 119)), (1, .int x1), (2, .int x2), (3, .int x3), (4, .int x4)]) dX12_rows_54 (Nat.le_of_ble_eq_true rfl) (fun _ => rfl) E (fun v54 E => ?_)
          exact qt_sub _ [1, 2, 3, 4, 5, 0] rfl ((s_X12_rows_b56_loop x1 x2 x3 x4 v54 h50 E G))
        · refine qt_iconst dX12_rows_47 ci_m1 ?_
          exact qt_ireturn rfl (Nat.le_of_ble_eq_true rfl) dX12_rows_48 E G
noncomputable def f_X12_fillsFitting_b105 (x2 : Int32) (h : qa_M) : Option ((Int32 × qa_M) ⊕ qa_M) :=
  qbd (x2 + (1 : Int32)) (fun v105 : Int32 =>
  some (.inl (v105, h)))
set_option maxRecDepth 20000 in
theorem s_X12_fillsFitting_b105 {l : Launch} {g : qa_G} {d : Nat} {rz : Option Value} {hz : qa_M} (x2 : Int32) (h : qa_M) {z : ((Int32 × qa_M) ⊕ qa_M)} (E : f_X12_fillsFitting_b105 x2 h = some z) (G : (Sum.elim (fun (sz : Int32 × qa_M) => qt_At l g (yX12_fillsFitting, cX12_fillsFitting, 4, none) (d + 7) 0 0 52 [(0, .ref (g.1 + 119)), (2, .int sz.1)] [] sz.2 rz hz) (qg_v rz hz)) z) : qt_At l g (yX12_fillsFitting, cX12_fillsFitting, 4, none) (d + 7) 0 0 105 [(0, .ref (g.1 + 119)), (2, .int x2)] [] h rz hz := by
  unfold f_X12_fillsFitting_b105 at E
  refine qt_iinc 1 (fun v105 => [(2, .int v105), (0, .ref (g.1 + 119))]) dX12_fillsFitting_105 rfl ci_1 (Nat.le_of_ble_eq_true rfl) (fun _ => rfl) E (fun v105 E => ?_)
  refine qt_goto 52 dX12_fillsFitting_108 (by decide) ?_
  cases E
  exact qt_sub _ [1, 0] rfl (G)
noncomputable def f_X12_fillsFitting_b97 (x2 : Int32) (x3 : Int32) (s1 : Int32) (s2 : Int32) (s3 : Int32) (h : qa_M) : Option ((Int32 × Int32 × qa_M) ⊕ ((Int32 × qa_M) ⊕ qa_M)) :=
  qck s1 1024 (
  qbd (qw_I h 157 s1.toNatClampNeg (s2 + s3)) (fun h98 : qa_M =>
  qbd (x3 + (1 : Int32)) (fun v99 : Int32 =>
  some (.inl (x2, v99, h98)))))
set_option maxRecDepth 20000 in
theorem s_X12_fillsFitting_b97 {l : Launch} {g : qa_G} {d : Nat} {rz : Option Value} {hz : qa_M} (x2 : Int32) (x3 : Int32) (s1 : Int32) (s2 : Int32) (s3 : Int32) (h : qa_M) {z : ((Int32 × Int32 × qa_M) ⊕ ((Int32 × qa_M) ⊕ qa_M))} (E : f_X12_fillsFitting_b97 x2 x3 s1 s2 s3 h = some z) (G : (Sum.elim (fun (sz : Int32 × Int32 × qa_M) => qt_At l g (yX12_fillsFitting, cX12_fillsFitting, 4, none) (d + 7) 0 0 60 [(0, .ref (g.1 + 119)), (2, .int sz.1), (3, .int sz.2.1)] [] sz.2.2 rz hz) (Sum.elim (fun (sz : Int32 × qa_M) => qt_At l g (yX12_fillsFitting, cX12_fillsFitting, 4, none) (d + 7) 0 0 52 [(0, .ref (g.1 + 119)), (2, .int sz.1)] [] sz.2 rz hz) (qg_v rz hz))) z) : qt_At l g (yX12_fillsFitting, cX12_fillsFitting, 4, none) (d + 7) 0 0 97 [(0, .ref (g.1 + 119)), (2, .int x2), (3, .int x3)] [.int s3, .int s2, .int s1, .ref (g.1 + 157)] h rz hz := by
  unfold f_X12_fillsFitting_b97 at E
  refine qt_iadd dX12_fillsFitting_97 ?_
  refine qt_iast (wl_157 h) dX12_fillsFitting_98 E (fun h98 E => ?_)
  refine qt_iinc 2 (fun v99 => [(3, .int v99), (0, .ref (g.1 + 119)), (2, .int x2)]) dX12_fillsFitting_99 rfl ci_1 (Nat.le_of_ble_eq_true rfl) (fun _ => rfl) E (fun v99 E => ?_)
  refine qt_goto 60 dX12_fillsFitting_102 (by decide) ?_
  cases E
  exact qt_sub _ [1, 2, 0] rfl (G)
noncomputable def f_X12_fillsFitting_b60 (x2 : Int32) (x3 : Int32) (h : qa_M) : Option ((Int32 × Int32 × qa_M) ⊕ ((Int32 × qa_M) ⊕ qa_M)) :=
  if (1024 : Int32) ≤ x3 then (
   qup (f_X12_fillsFitting_b105 x2 h))
  else (
   qck x3 1024 (
   qbn (m_X12_has x3.toInt64 x2 h) (fun (c77 : Int32) (h77 : qa_M) =>
   if c77 = 0 then (
    qck (x3 ||| ((1 : Int32) <<< (x2 &&& 31))) 1024 (
    f_X12_fillsFitting_b97 x2 x3 x3 (h.1 157 x3.toNatClampNeg) (h77.1 157 (x3 ||| ((1 : Int32) <<< (x2 &&& 31))).toNatClampNeg) h77))
   else (
    f_X12_fillsFitting_b97 x2 x3 x3 (h.1 157 x3.toNatClampNeg) (0 : Int32) h77))))
set_option maxRecDepth 20000 in
theorem s_X12_fillsFitting_b60 {l : Launch} {g : qa_G} {d : Nat} {rz : Option Value} {hz : qa_M} (x2 : Int32) (x3 : Int32) (h : qa_M) {z : ((Int32 × Int32 × qa_M) ⊕ ((Int32 × qa_M) ⊕ qa_M))} (E : f_X12_fillsFitting_b60 x2 x3 h = some z) (G : (Sum.elim (fun (sz : Int32 × Int32 × qa_M) => qt_At l g (yX12_fillsFitting, cX12_fillsFitting, 4, none) (d + 7) 0 0 60 [(0, .ref (g.1 + 119)), (2, .int sz.1), (3, .int sz.2.1)] [] sz.2.2 rz hz) (Sum.elim (fun (sz : Int32 × qa_M) => qt_At l g (yX12_fillsFitting, cX12_fillsFitting, 4, none) (d + 7) 0 0 52 [(0, .ref (g.1 + 119)), (2, .int sz.1)] [] sz.2 rz hz) (qg_v rz hz))) z) : qt_At l g (yX12_fillsFitting, cX12_fillsFitting, 4, none) (d + 7) 0 0 60 [(0, .ref (g.1 + 119)), (2, .int x2), (3, .int x3)] [] h rz hz := by
  unfold f_X12_fillsFitting_b60 at E
  refine qt_iload_n 2 dX12_fillsFitting_60 rfl rfl ?_
  refine qt_sipush dX12_fillsFitting_61 cs_1024 ?_
  refine qt_icmp_ge 105 dX12_fillsFitting_64 (by decide) E (fun E => ?_) (fun E => ?_)
  · obtain ⟨z0_, E, G⟩ := qup_g E G
    exact qt_sub _ [0, 1] rfl ((s_X12_fillsFitting_b105 x2 h E G))
  · refine qt_aload_n 0 dX12_fillsFitting_67 rfl rfl ?_
    refine qt_getS 157 (wl_119 h) fe_RX12_127 rfl dX12_fillsFitting_68 ?_
    refine qt_iload_n 2 dX12_fillsFitting_71 rfl rfl ?_
    refine qt_dup2_11 dX12_fillsFitting_72 rfl rfl ?_
    refine qt_iald (wl_157 h) dX12_fillsFitting_73 E (fun E => ?_)
    refine qt_iload_n 2 dX12_fillsFitting_74 rfl rfl ?_
    refine qt_i2l dX12_fillsFitting_75 ?_
    refine qt_iload_n 1 dX12_fillsFitting_76 rfl rfl ?_
    obtain ⟨c77, h77, e77, E⟩ := qbn_el E
    refine qt_callSi (b2 := 0) [.long x3.toInt64, .int x2] (c_X12_has x3.toInt64 x2 h e77) cv_RX12_211 rfl (Nat.le_of_ble_eq_true rfl) (Nat.le_of_ble_eq_true rfl) dX12_fillsFitting_77 ?_
    refine qt_if_eq 87 dX12_fillsFitting_80 (by decide) E (fun E => ?_) (fun E => ?_)
    · refine qt_aload_n 0 dX12_fillsFitting_87 rfl rfl ?_
      refine qt_getS 157 (wl_119 h77) fe_RX12_127 rfl dX12_fillsFitting_88 ?_
      refine qt_iload_n 2 dX12_fillsFitting_91 rfl rfl ?_
      refine qt_iconst dX12_fillsFitting_92 ci_1 ?_
      refine qt_iload_n 1 dX12_fillsFitting_93 rfl rfl ?_
      refine qt_ishl dX12_fillsFitting_94 ?_
      refine qt_ior dX12_fillsFitting_95 ?_
      refine qt_iald (wl_157 h77) dX12_fillsFitting_96 E (fun E => ?_)
      exact qt_sub _ [0, 1, 2] rfl ((s_X12_fillsFitting_b97 x2 x3 x3 (h.1 157 x3.toNatClampNeg) (h77.1 157 (x3 ||| ((1 : Int32) <<< (x2 &&& 31))).toNatClampNeg) h77 E G))
    · refine qt_iconst dX12_fillsFitting_83 ci_0 ?_
      refine qt_goto 97 dX12_fillsFitting_84 (by decide) ?_
      exact qt_sub _ [0, 1, 2] rfl ((s_X12_fillsFitting_b97 x2 x3 x3 (h.1 157 x3.toNatClampNeg) (0 : Int32) h77 E G))
noncomputable def f_X12_fillsFitting_b60_loop (x2 : Int32) (x3 : Int32) (h : qa_M) : Option ((Int32 × qa_M) ⊕ qa_M) := qlp (fun sz : Int32 × Int32 × qa_M => f_X12_fillsFitting_b60 sz.1 sz.2.1 sz.2.2) (x2, x3, h)
theorem s_X12_fillsFitting_b60_loop {l : Launch} {g : qa_G} {d : Nat} {rz : Option Value} {hz : qa_M} (x2 : Int32) (x3 : Int32) (h : qa_M) {z : ((Int32 × qa_M) ⊕ qa_M)} (E : f_X12_fillsFitting_b60_loop x2 x3 h = some z) (G : (Sum.elim (fun (sz : Int32 × qa_M) => qt_At l g (yX12_fillsFitting, cX12_fillsFitting, 4, none) (d + 7) 0 0 52 [(0, .ref (g.1 + 119)), (2, .int sz.1)] [] sz.2 rz hz) (qg_v rz hz)) z) : qt_At l g (yX12_fillsFitting, cX12_fillsFitting, 4, none) (d + 7) 0 0 60 [(0, .ref (g.1 + 119)), (2, .int x2), (3, .int x3)] [] h rz hz :=
  qlp_ind (fun sz : Int32 × Int32 × qa_M => qt_At l g (yX12_fillsFitting, cX12_fillsFitting, 4, none) (d + 7) 0 0 60 [(0, .ref (g.1 + 119)), (2, .int sz.1), (3, .int sz.2.1)] [] sz.2.2 rz hz) (fun sz E => s_X12_fillsFitting_b60 sz.1 sz.2.1 sz.2.2 E G) (fun sz sz2 E ih => s_X12_fillsFitting_b60 sz.1 sz.2.1 sz.2.2 E ih) (x2, x3, h) E
noncomputable def f_X12_fillsFitting_b52 (x2 : Int32) (h : qa_M) : Option ((Int32 × qa_M) ⊕ qa_M) :=
  if (10 : Int32) ≤ x2 then (
   qup (some h))
  else (
   qbd (0 : Int32) (fun v59 : Int32 =>
   f_X12_fillsFitting_b60_loop x2 v59 h))
set_option maxRecDepth 20000 in
theorem s_X12_fillsFitting_b52 {l : Launch} {g : qa_G} {d : Nat} {rz : Option Value} {hz : qa_M} (x2 : Int32) (h : qa_M) {z : ((Int32 × qa_M) ⊕ qa_M)} (E : f_X12_fillsFitting_b52 x2 h = some z) (G : (Sum.elim (fun (sz : Int32 × qa_M) => qt_At l g (yX12_fillsFitting, cX12_fillsFitting, 4, none) (d + 7) 0 0 52 [(0, .ref (g.1 + 119)), (2, .int sz.1)] [] sz.2 rz hz) (qg_v rz hz)) z) : qt_At l g (yX12_fillsFitting, cX12_fillsFitting, 4, none) (d + 7) 0 0 52 [(0, .ref (g.1 + 119)), (2, .int x2)] [] h rz hz := by
  unfold f_X12_fillsFitting_b52 at E
  refine qt_iload_n 1 dX12_fillsFitting_52 rfl rfl ?_
  refine qt_bipush dX12_fillsFitting_53 cb_10 ?_
  refine qt_icmp_ge 111 dX12_fillsFitting_55 (by decide) E (fun E => ?_) (fun E => ?_)
  · obtain ⟨z0_, E, G⟩ := qup_g E G
    exact qt_vreturn rfl (Nat.le_of_ble_eq_true rfl) dX12_fillsFitting_111 E G
  · refine qt_iconst dX12_fillsFitting_58 ci_0 ?_
    refine qt_istore_n (fun v59 => [(3, .int v59), (0, .ref (g.1 + 119)), (2, .int x2)]) dX12_fillsFitting_59 rfl (Nat.le_of_ble_eq_true rfl) (fun _ => rfl) E (fun v59 E => ?_)
    exact qt_sub _ [1, 2, 0] rfl ((s_X12_fillsFitting_b60_loop x2 v59 h E G))
noncomputable def f_X12_fillsFitting_b52_loop (x2 : Int32) (h : qa_M) : Option qa_M := qlp (fun sz : Int32 × qa_M => f_X12_fillsFitting_b52 sz.1 sz.2) (x2, h)
theorem s_X12_fillsFitting_b52_loop {l : Launch} {g : qa_G} {d : Nat} {rz : Option Value} {hz : qa_M} (x2 : Int32) (h : qa_M) {z : qa_M} (E : f_X12_fillsFitting_b52_loop x2 h = some z) (G : (qg_v rz hz) z) : qt_At l g (yX12_fillsFitting, cX12_fillsFitting, 4, none) (d + 7) 0 0 52 [(0, .ref (g.1 + 119)), (2, .int x2)] [] h rz hz :=
  qlp_ind (fun sz : Int32 × qa_M => qt_At l g (yX12_fillsFitting, cX12_fillsFitting, 4, none) (d + 7) 0 0 52 [(0, .ref (g.1 + 119)), (2, .int sz.1)] [] sz.2 rz hz) (fun sz E => s_X12_fillsFitting_b52 sz.1 sz.2 E G) (fun sz sz2 E ih => s_X12_fillsFitting_b52 sz.1 sz.2 E ih) (x2, h) E
noncomputable def f_X12_fillsFitting_b50 (h : qa_M) : Option qa_M :=
  qbd (0 : Int32) (fun v51 : Int32 =>
  f_X12_fillsFitting_b52_loop v51 h)
set_option maxRecDepth 20000 in
theorem s_X12_fillsFitting_b50 {l : Launch} {g : qa_G} {d : Nat} {rz : Option Value} {hz : qa_M} (h : qa_M) {z : qa_M} (E : f_X12_fillsFitting_b50 h = some z) (G : (qg_v rz hz) z) : qt_At l g (yX12_fillsFitting, cX12_fillsFitting, 4, none) (d + 7) 0 0 50 [(0, .ref (g.1 + 119))] [] h rz hz := by
  unfold f_X12_fillsFitting_b50 at E
  refine qt_iconst dX12_fillsFitting_50 ci_0 ?_
  refine qt_istore_n (fun v51 => [(2, .int v51), (0, .ref (g.1 + 119))]) dX12_fillsFitting_51 rfl (Nat.le_of_ble_eq_true rfl) (fun _ => rfl) E (fun v51 E => ?_)
  exact qt_sub _ [1, 0] rfl ((s_X12_fillsFitting_b52_loop v51 h E G))
noncomputable def f_X12_fillsFitting_b26 (x1 : Int32) (h : qa_M) : Option ((Int32 × qa_M) ⊕ qa_M) :=
  qbn (m_X12_laysOn h) (fun (c27 : Int32) (h27 : qa_M) =>
  if c27 = 0 then (
   qup (f_X12_fillsFitting_b50 h27))
  else (
   qbn (m_X12_fitsOf x1 h27) (fun (c39 : Int32) (h39 : qa_M) =>
   qck c39 1024 (
   qck c39 1024 (
   qbd (qw_I h39 157 c39.toNatClampNeg ((h39.1 157 c39.toNatClampNeg) + (1 : Int32))) (fun h46 : qa_M =>
   some (.inl (x1, h46))))))))
set_option maxRecDepth 20000 in
theorem s_X12_fillsFitting_b26 {l : Launch} {g : qa_G} {d : Nat} {rz : Option Value} {hz : qa_M} (x1 : Int32) (h : qa_M) {z : ((Int32 × qa_M) ⊕ qa_M)} (E : f_X12_fillsFitting_b26 x1 h = some z) (G : (Sum.elim (fun (sz : Int32 × qa_M) => qt_At l g (yX12_fillsFitting, cX12_fillsFitting, 4, none) (d + 7) 0 0 26 [(0, .ref (g.1 + 119)), (1, .int sz.1)] [] sz.2 rz hz) (qg_v rz hz)) z) : qt_At l g (yX12_fillsFitting, cX12_fillsFitting, 4, none) (d + 7) 0 0 26 [(0, .ref (g.1 + 119)), (1, .int x1)] [] h rz hz := by
  unfold f_X12_fillsFitting_b26 at E
  refine qt_aload_n 0 dX12_fillsFitting_26 rfl rfl ?_
  obtain ⟨c27, h27, e27, E⟩ := qbn_el E
  refine qt_callVi (b2 := 0) [] (c_X12_laysOn h e27) cv_RX12_440 (wl_119 h) rfl rfl rfl (Nat.le_of_ble_eq_true rfl) (Nat.le_of_ble_eq_true rfl) dX12_fillsFitting_27 ?_
  refine qt_if_eq 50 dX12_fillsFitting_30 (by decide) E (fun E => ?_) (fun E => ?_)
  · obtain ⟨z0_, E, G⟩ := qup_g E G
    exact qt_sub _ [0] rfl ((s_X12_fillsFitting_b50 h27 E G))
  · refine qt_aload_n 0 dX12_fillsFitting_33 rfl rfl ?_
    refine qt_getS 157 (wl_119 h27) fe_RX12_127 rfl dX12_fillsFitting_34 ?_
    refine qt_aload_n 0 dX12_fillsFitting_37 rfl rfl ?_
    refine qt_iload_n 1 dX12_fillsFitting_38 rfl rfl ?_
    obtain ⟨c39, h39, e39, E⟩ := qbn_el E
    refine qt_callVi (b2 := 0) [.int x1] (c_X12_fitsOf x1 h27 e39) cv_RX12_443 (wl_119 h27) rfl rfl rfl (Nat.le_of_ble_eq_true rfl) (Nat.le_of_ble_eq_true rfl) dX12_fillsFitting_39 ?_
    refine qt_dup2_11 dX12_fillsFitting_42 rfl rfl ?_
    refine qt_iald (wl_157 h39) dX12_fillsFitting_43 E (fun E => ?_)
    refine qt_iconst dX12_fillsFitting_44 ci_1 ?_
    refine qt_iadd dX12_fillsFitting_45 ?_
    refine qt_iast (wl_157 h39) dX12_fillsFitting_46 E (fun h46 E => ?_)
    refine qt_goto 26 dX12_fillsFitting_47 (by decide) ?_
    cases E
    exact qt_sub _ [0, 1] rfl (G)
noncomputable def f_X12_fillsFitting_b26_loop (x1 : Int32) (h : qa_M) : Option qa_M := qlp (fun sz : Int32 × qa_M => f_X12_fillsFitting_b26 sz.1 sz.2) (x1, h)
theorem s_X12_fillsFitting_b26_loop {l : Launch} {g : qa_G} {d : Nat} {rz : Option Value} {hz : qa_M} (x1 : Int32) (h : qa_M) {z : qa_M} (E : f_X12_fillsFitting_b26_loop x1 h = some z) (G : (qg_v rz hz) z) : qt_At l g (yX12_fillsFitting, cX12_fillsFitting, 4, none) (d + 7) 0 0 26 [(0, .ref (g.1 + 119)), (1, .int x1)] [] h rz hz :=
  qlp_ind (fun sz : Int32 × qa_M => qt_At l g (yX12_fillsFitting, cX12_fillsFitting, 4, none) (d + 7) 0 0 26 [(0, .ref (g.1 + 119)), (1, .int sz.1)] [] sz.2 rz hz) (fun sz E => s_X12_fillsFitting_b26 sz.1 sz.2 E G) (fun sz sz2 E ih => s_X12_fillsFitting_b26 sz.1 sz.2 E ih) (x1, h) E
noncomputable def f_X12_fillsFitting_b22 (x1 : Int32) (h : qa_M) : Option qa_M :=
  qbv (m_X12_beginsLayings h) (fun h23 : qa_M =>
  f_X12_fillsFitting_b26_loop x1 h23)
set_option maxRecDepth 20000 in
theorem s_X12_fillsFitting_b22 {l : Launch} {g : qa_G} {d : Nat} {rz : Option Value} {hz : qa_M} (x1 : Int32) (h : qa_M) {z : qa_M} (E : f_X12_fillsFitting_b22 x1 h = some z) (G : (qg_v rz hz) z) : qt_At l g (yX12_fillsFitting, cX12_fillsFitting, 4, none) (d + 7) 0 0 22 [(0, .ref (g.1 + 119)), (1, .int x1)] [] h rz hz := by
  unfold f_X12_fillsFitting_b22 at E
  refine qt_aload_n 0 dX12_fillsFitting_22 rfl rfl ?_
  obtain ⟨h23, e23, E⟩ := qbv_el E
  refine qt_callVv (b2 := 0) [] (c_X12_beginsLayings h e23) cv_RX12_446 (wl_119 h) rfl rfl rfl (Nat.le_of_ble_eq_true rfl) (Nat.le_of_ble_eq_true rfl) dX12_fillsFitting_23 ?_
  exact qt_sub _ [0, 1] rfl ((s_X12_fillsFitting_b26_loop x1 h23 E G))
noncomputable def f_X12_fillsFitting_b2 (x1 : Int32) (x2 : Int32) (h : qa_M) : Option ((Int32 × Int32 × qa_M) ⊕ qa_M) :=
  if (1024 : Int32) ≤ x2 then (
   qup (f_X12_fillsFitting_b22 x1 h))
  else (
   qck x2 1024 (
   qbd (qw_I h 157 x2.toNatClampNeg (0 : Int32)) (fun h15 : qa_M =>
   qbd (x2 + (1 : Int32)) (fun v16 : Int32 =>
   some (.inl (x1, v16, h15))))))
set_option maxRecDepth 20000 in
theorem s_X12_fillsFitting_b2 {l : Launch} {g : qa_G} {d : Nat} {rz : Option Value} {hz : qa_M} (x1 : Int32) (x2 : Int32) (h : qa_M) {z : ((Int32 × Int32 × qa_M) ⊕ qa_M)} (E : f_X12_fillsFitting_b2 x1 x2 h = some z) (G : (Sum.elim (fun (sz : Int32 × Int32 × qa_M) => qt_At l g (yX12_fillsFitting, cX12_fillsFitting, 4, none) (d + 7) 0 0 2 [(0, .ref (g.1 + 119)), (1, .int sz.1), (2, .int sz.2.1)] [] sz.2.2 rz hz) (qg_v rz hz)) z) : qt_At l g (yX12_fillsFitting, cX12_fillsFitting, 4, none) (d + 7) 0 0 2 [(0, .ref (g.1 + 119)), (1, .int x1), (2, .int x2)] [] h rz hz := by
  unfold f_X12_fillsFitting_b2 at E
  refine qt_iload_n 2 dX12_fillsFitting_2 rfl rfl ?_
  refine qt_sipush dX12_fillsFitting_3 cs_1024 ?_
  refine qt_icmp_ge 22 dX12_fillsFitting_6 (by decide) E (fun E => ?_) (fun E => ?_)
  · obtain ⟨z0_, E, G⟩ := qup_g E G
    exact qt_sub _ [0, 1] rfl ((s_X12_fillsFitting_b22 x1 h E G))
  · refine qt_aload_n 0 dX12_fillsFitting_9 rfl rfl ?_
    refine qt_getS 157 (wl_119 h) fe_RX12_127 rfl dX12_fillsFitting_10 ?_
    refine qt_iload_n 2 dX12_fillsFitting_13 rfl rfl ?_
    refine qt_iconst dX12_fillsFitting_14 ci_0 ?_
    refine qt_iast (wl_157 h) dX12_fillsFitting_15 E (fun h15 E => ?_)
    refine qt_iinc 2 (fun v16 => [(2, .int v16), (0, .ref (g.1 + 119)), (1, .int x1)]) dX12_fillsFitting_16 rfl ci_1 (Nat.le_of_ble_eq_true rfl) (fun _ => rfl) E (fun v16 E => ?_)
    refine qt_goto 2 dX12_fillsFitting_19 (by decide) ?_
    cases E
    exact qt_sub _ [1, 2, 0] rfl (G)
noncomputable def f_X12_fillsFitting_b2_loop (x1 : Int32) (x2 : Int32) (h : qa_M) : Option qa_M := qlp (fun sz : Int32 × Int32 × qa_M => f_X12_fillsFitting_b2 sz.1 sz.2.1 sz.2.2) (x1, x2, h)
theorem s_X12_fillsFitting_b2_loop {l : Launch} {g : qa_G} {d : Nat} {rz : Option Value} {hz : qa_M} (x1 : Int32) (x2 : Int32) (h : qa_M) {z : qa_M} (E : f_X12_fillsFitting_b2_loop x1 x2 h = some z) (G : (qg_v rz hz) z) : qt_At l g (yX12_fillsFitting, cX12_fillsFitting, 4, none) (d + 7) 0 0 2 [(0, .ref (g.1 + 119)), (1, .int x1), (2, .int x2)] [] h rz hz :=
  qlp_ind (fun sz : Int32 × Int32 × qa_M => qt_At l g (yX12_fillsFitting, cX12_fillsFitting, 4, none) (d + 7) 0 0 2 [(0, .ref (g.1 + 119)), (1, .int sz.1), (2, .int sz.2.1)] [] sz.2.2 rz hz) (fun sz E => s_X12_fillsFitting_b2 sz.1 sz.2.1 sz.2.2 E G) (fun sz sz2 E ih => s_X12_fillsFitting_b2 sz.1 sz.2.1 sz.2.2 E ih) (x1, x2, h) E
noncomputable def m_X12_fillsFitting (x1 : Int32) (h : qa_M) : Option qa_M :=
  qbd (0 : Int32) (fun v1 : Int32 =>
  f_X12_fillsFitting_b2_loop x1 v1 h)
set_option maxRecDepth 20000 in
theorem c_X12_fillsFitting {l : Launch} {g : qa_G} {d : Nat} (x1 : Int32) (h : qa_M) {h1 : qa_M} (E : m_X12_fillsFitting x1 h = some h1) : qt_Met l g (yX12_fillsFitting, cX12_fillsFitting, 4, none) (d + 7) 0 [.ref (g.1 + 119), .int x1] h none h1 := by
  refine qt_Met.of (plainFor_of_name (by decide)) (Nat.le_of_ble_eq_true rfl) ?_
  have G : qg_v none h1 (h1) := ⟨rfl, rfl⟩
  unfold m_X12_fillsFitting at E
  refine qt_iconst dX12_fillsFitting_0 ci_0 ?_
  refine qt_istore_n (fun v1 => [(2, .int v1), (0, .ref (g.1 + 119)), (1, .int x1)]) dX12_fillsFitting_1 rfl (Nat.le_of_ble_eq_true rfl) (fun _ => rfl) E (fun v1 E => ?_)
  exact qt_sub _ [1, 2, 0] rfl ((s_X12_fillsFitting_b2_loop x1 v1 h E G))
noncomputable def m_X12_news (x1 : Int32) (x2 : Int32) (h : qa_M) : Option (Int32 × qa_M) :=
  qbn (m_X12_isSet x1 h) (fun (c2 : Int32) (h2 : qa_M) =>
  if c2 = 0 then (
   some ((-1 : Int32), h2))
  else (
   qck (5 : Int32) 8 (
   qbn (m_X12_in x2.toInt64 (0 : Int64) (((h2.1 120 (5 : Int32).toNatClampNeg) - (1 : Int32)).toInt64) h2) (fun (c20 : Int32) (h20 : qa_M) =>
   if c20 = 0 then (
    some ((-1 : Int32), h20))
   else (
    qbn (m_X12_has x1.toInt64 x2 h20) (fun (c29 : Int32) (h29 : qa_M) =>
    if c29 = 0 then (
     some ((-1 : Int32), h29))
    else (
     qbv (m_X12_fillsFitting x1 h29) (fun h39 : qa_M =>
     qck (x1 &&& (((1 : Int32) <<< (x2 &&& 31)) ^^^ (-1 : Int32))) 1024 (
     qck x1 1024 (
     if (h39.1 157 (x1 &&& (((1 : Int32) <<< (x2 &&& 31)) ^^^ (-1 : Int32))).toNatClampNeg) ≤ (h39.1 157 x1.toNatClampNeg) then (
      some ((0 : Int32), h39))
     else (
      some ((1 : Int32), h39))))))))))))
set_option maxRecDepth 20000 in
theorem c_X12_news {l : Launch} {g : qa_G} {d : Nat} (x1 : Int32) (x2 : Int32) (h : qa_M) {c : Int32} {h1 : qa_M} (E : m_X12_news x1 x2 h = some (c, h1)) : qt_Met l g (yX12_news, cX12_news, 3, (some .int)) (d + 8) 0 [.ref (g.1 + 119), .int x1, .int x2] h (some (.int c)) h1 := by
  refine qt_Met.of (plainFor_of_name (by decide)) (Nat.le_of_ble_eq_true rfl) ?_
  have G : qg_i (some (.int c)) h1 ((c, h1)) := ⟨rfl, rfl⟩
  unfold m_X12_news at E
  refine qt_aload_n 0 dX12_news_0 rfl rfl ?_
  refine qt_iload_n 1 dX12_news_1 rfl rfl ?_
  obtain ⟨c2, h2, e2, E⟩ := qbn_el E
  refine qt_callVi (b2 := 0) [.int x1] (c_X12_isSet x1 h e2) cv_RX12_452 (wl_119 h) rfl rfl rfl (Nat.le_of_ble_eq_true rfl) (Nat.le_of_ble_eq_true rfl) dX12_news_2 ?_
  refine qt_if_eq 35 dX12_news_5 (by decide) E (fun E => ?_) (fun E => ?_)
  · refine qt_iconst dX12_news_35 ci_m1 ?_
    exact qt_ireturn rfl (Nat.le_of_ble_eq_true rfl) dX12_news_36 E G
  · refine qt_iload_n 2 dX12_news_8 rfl rfl ?_
    refine qt_i2l dX12_news_9 ?_
    refine qt_lconst dX12_news_10 cl_0 ?_
    refine qt_aload_n 0 dX12_news_11 rfl rfl ?_
    refine qt_getS 120 (wl_119 h2) fe_RX12_7 rfl dX12_news_12 ?_
    refine qt_iconst dX12_news_15 ci_5 ?_
    refine qt_iald (wl_120 h2) dX12_news_16 E (fun E => ?_)
    refine qt_iconst dX12_news_17 ci_1 ?_
    refine qt_isub dX12_news_18 ?_
    refine qt_i2l dX12_news_19 ?_
    obtain ⟨c20, h20, e20, E⟩ := qbn_el E
    refine qt_callSi (b2 := 0) [.long x2.toInt64, .long (0 : Int64), .long (((h2.1 120 (5 : Int32).toNatClampNeg) - (1 : Int32)).toInt64)] (c_X12_in x2.toInt64 (0 : Int64) (((h2.1 120 (5 : Int32).toNatClampNeg) - (1 : Int32)).toInt64) h2 e20) cv_RX12_161 rfl (Nat.le_of_ble_eq_true rfl) (Nat.le_of_ble_eq_true rfl) dX12_news_20 ?_
    refine qt_if_eq 35 dX12_news_23 (by decide) E (fun E => ?_) (fun E => ?_)
    · refine qt_iconst dX12_news_35 ci_m1 ?_
      exact qt_ireturn rfl (Nat.le_of_ble_eq_true rfl) dX12_news_36 E G
    · refine qt_iload_n 1 dX12_news_26 rfl rfl ?_
      refine qt_i2l dX12_news_27 ?_
      refine qt_iload_n 2 dX12_news_28 rfl rfl ?_
      obtain ⟨c29, h29, e29, E⟩ := qbn_el E
      refine qt_callSi (b2 := 0) [.long x1.toInt64, .int x2] (c_X12_has x1.toInt64 x2 h20 e29) cv_RX12_211 rfl (Nat.le_of_ble_eq_true rfl) (Nat.le_of_ble_eq_true rfl) dX12_news_29 ?_
      refine qt_if_ne 37 dX12_news_32 (by decide) E (fun E => ?_) (fun E => ?_)
      · refine qt_aload_n 0 dX12_news_37 rfl rfl ?_
        refine qt_iload_n 1 dX12_news_38 rfl rfl ?_
        obtain ⟨h39, e39, E⟩ := qbv_el E
        refine qt_callVv (b2 := 0) [.int x1] (c_X12_fillsFitting x1 h29 e39) cv_RX12_476 (wl_119 h29) rfl rfl rfl (Nat.le_of_ble_eq_true rfl) (Nat.le_of_ble_eq_true rfl) dX12_news_39 ?_
        refine qt_aload_n 0 dX12_news_42 rfl rfl ?_
        refine qt_getS 157 (wl_119 h39) fe_RX12_127 rfl dX12_news_43 ?_
        refine qt_iload_n 1 dX12_news_46 rfl rfl ?_
        refine qt_iconst dX12_news_47 ci_1 ?_
        refine qt_iload_n 2 dX12_news_48 rfl rfl ?_
        refine qt_ishl dX12_news_49 ?_
        refine qt_iconst dX12_news_50 ci_m1 ?_
        refine qt_ixor dX12_news_51 ?_
        refine qt_iand dX12_news_52 ?_
        refine qt_iald (wl_157 h39) dX12_news_53 E (fun E => ?_)
        refine qt_aload_n 0 dX12_news_54 rfl rfl ?_
        refine qt_getS 157 (wl_119 h39) fe_RX12_127 rfl dX12_news_55 ?_
        refine qt_iload_n 1 dX12_news_58 rfl rfl ?_
        refine qt_iald (wl_157 h39) dX12_news_59 E (fun E => ?_)
        refine qt_icmp_le 67 dX12_news_60 (by decide) E (fun E => ?_) (fun E => ?_)
        · refine qt_iconst dX12_news_67 ci_0 ?_
          exact qt_ireturn rfl (Nat.le_of_ble_eq_true rfl) dX12_news_68 E G
        · refine qt_iconst dX12_news_63 ci_1 ?_
          refine qt_goto 68 dX12_news_64 (by decide) ?_
          exact qt_ireturn rfl (Nat.le_of_ble_eq_true rfl) dX12_news_68 E G
      · refine qt_iconst dX12_news_35 ci_m1 ?_
        exact qt_ireturn rfl (Nat.le_of_ble_eq_true rfl) dX12_news_36 E G
noncomputable def m_X12_quarrel (x1 : Int32) (x2 : Int32) (h : qa_M) : Option (Int32 × qa_M) :=
  qck (5 : Int32) 8 (
  qbn (m_X12_in x1.toInt64 (0 : Int64) (((h.1 120 (5 : Int32).toNatClampNeg) - (1 : Int32)).toInt64) h) (fun (c12 : Int32) (h12 : qa_M) =>
  if c12 = 0 then (
   some ((-1 : Int32), h12))
  else (
   qck (5 : Int32) 8 (
   qbn (m_X12_in x2.toInt64 (0 : Int64) (((h12.1 120 (5 : Int32).toNatClampNeg) - (1 : Int32)).toInt64) h12) (fun (c30 : Int32) (h30 : qa_M) =>
   if c30 = 0 then (
    some ((-1 : Int32), h30))
   else (
    if x1 = x2 then (
     some ((-1 : Int32), h30))
    else (
     qbd (((1 : Int32) <<< (x1 &&& 31)) ||| ((1 : Int32) <<< (x2 &&& 31))) (fun v50 : Int32 =>
     qbv (m_X12_fillsFitting v50 h30) (fun h53 : qa_M =>
     qck ((1 : Int32) <<< (x1 &&& 31)) 1024 (
     if (h53.1 157 ((1 : Int32) <<< (x1 &&& 31)).toNatClampNeg) ≤ 0 then (
      some ((0 : Int32), h53))
     else (
      qck ((1 : Int32) <<< (x2 &&& 31)) 1024 (
      if (h53.1 157 ((1 : Int32) <<< (x2 &&& 31)).toNatClampNeg) ≤ 0 then (
       some ((0 : Int32), h53))
      else (
       qck v50 1024 (
       if (h53.1 157 v50.toNatClampNeg) = 0 then (
        some ((1 : Int32), h53))
       else (
        some ((0 : Int32), h53))))))))))))))))
set_option maxRecDepth 20000 in
theorem c_X12_quarrel {l : Launch} {g : qa_G} {d : Nat} (x1 : Int32) (x2 : Int32) (h : qa_M) {c : Int32} {h1 : qa_M} (E : m_X12_quarrel x1 x2 h = some (c, h1)) : qt_Met l g (yX12_quarrel, cX12_quarrel, 4, (some .int)) (d + 8) 0 [.ref (g.1 + 119), .int x1, .int x2] h (some (.int c)) h1 := by
  refine qt_Met.of (plainFor_of_name (by decide)) (Nat.le_of_ble_eq_true rfl) ?_
  have G : qg_i (some (.int c)) h1 ((c, h1)) := ⟨rfl, rfl⟩
  unfold m_X12_quarrel at E
  refine qt_iload_n 1 dX12_quarrel_0 rfl rfl ?_
  refine qt_i2l dX12_quarrel_1 ?_
  refine qt_lconst dX12_quarrel_2 cl_0 ?_
  refine qt_aload_n 0 dX12_quarrel_3 rfl rfl ?_
  refine qt_getS 120 (wl_119 h) fe_RX12_7 rfl dX12_quarrel_4 ?_
  refine qt_iconst dX12_quarrel_7 ci_5 ?_
  refine qt_iald (wl_120 h) dX12_quarrel_8 E (fun E => ?_)
  refine qt_iconst dX12_quarrel_9 ci_1 ?_
  refine qt_isub dX12_quarrel_10 ?_
  refine qt_i2l dX12_quarrel_11 ?_
  obtain ⟨c12, h12, e12, E⟩ := qbn_el E
  refine qt_callSi (b2 := 0) [.long x1.toInt64, .long (0 : Int64), .long (((h.1 120 (5 : Int32).toNatClampNeg) - (1 : Int32)).toInt64)] (c_X12_in x1.toInt64 (0 : Int64) (((h.1 120 (5 : Int32).toNatClampNeg) - (1 : Int32)).toInt64) h e12) cv_RX12_161 rfl (Nat.le_of_ble_eq_true rfl) (Nat.le_of_ble_eq_true rfl) dX12_quarrel_12 ?_
  refine qt_if_eq 41 dX12_quarrel_15 (by decide) E (fun E => ?_) (fun E => ?_)
  · refine qt_iconst dX12_quarrel_41 ci_m1 ?_
    exact qt_ireturn rfl (Nat.le_of_ble_eq_true rfl) dX12_quarrel_42 E G
  · refine qt_iload_n 2 dX12_quarrel_18 rfl rfl ?_
    refine qt_i2l dX12_quarrel_19 ?_
    refine qt_lconst dX12_quarrel_20 cl_0 ?_
    refine qt_aload_n 0 dX12_quarrel_21 rfl rfl ?_
    refine qt_getS 120 (wl_119 h12) fe_RX12_7 rfl dX12_quarrel_22 ?_
    refine qt_iconst dX12_quarrel_25 ci_5 ?_
    refine qt_iald (wl_120 h12) dX12_quarrel_26 E (fun E => ?_)
    refine qt_iconst dX12_quarrel_27 ci_1 ?_
    refine qt_isub dX12_quarrel_28 ?_
    refine qt_i2l dX12_quarrel_29 ?_
    obtain ⟨c30, h30, e30, E⟩ := qbn_el E
    refine qt_callSi (b2 := 0) [.long x2.toInt64, .long (0 : Int64), .long (((h12.1 120 (5 : Int32).toNatClampNeg) - (1 : Int32)).toInt64)] (c_X12_in x2.toInt64 (0 : Int64) (((h12.1 120 (5 : Int32).toNatClampNeg) - (1 : Int32)).toInt64) h12 e30) cv_RX12_161 rfl (Nat.le_of_ble_eq_true rfl) (Nat.le_of_ble_eq_true rfl) dX12_quarrel_30 ?_
    refine qt_if_eq 41 dX12_quarrel_33 (by decide) E (fun E => ?_) (fun E => ?_)
    · refine qt_iconst dX12_quarrel_41 ci_m1 ?_
      exact qt_ireturn rfl (Nat.le_of_ble_eq_true rfl) dX12_quarrel_42 E G
    · refine qt_iload_n 1 dX12_quarrel_36 rfl rfl ?_
      refine qt_iload_n 2 dX12_quarrel_37 rfl rfl ?_
      refine qt_icmp_ne 43 dX12_quarrel_38 (by decide) E (fun E => ?_) (fun E => ?_)
      · refine qt_iconst dX12_quarrel_43 ci_1 ?_
        refine qt_iload_n 1 dX12_quarrel_44 rfl rfl ?_
        refine qt_ishl dX12_quarrel_45 ?_
        refine qt_iconst dX12_quarrel_46 ci_1 ?_
        refine qt_iload_n 2 dX12_quarrel_47 rfl rfl ?_
        refine qt_ishl dX12_quarrel_48 ?_
        refine qt_ior dX12_quarrel_49 ?_
        refine qt_istore_n (fun v50 => [(3, .int v50), (0, .ref (g.1 + 119)), (1, .int x1), (2, .int x2)]) dX12_quarrel_50 rfl (Nat.le_of_ble_eq_true rfl) (fun _ => rfl) E (fun v50 E => ?_)
        refine qt_aload_n 1 dX12_quarrel_51 rfl rfl ?_
        refine qt_iload_n 0 dX12_quarrel_52 rfl rfl ?_
        obtain ⟨h53, e53, E⟩ := qbv_el E
        refine qt_callVv (b2 := 0) [.int v50] (c_X12_fillsFitting v50 h30 e53) cv_RX12_476 (wl_119 h30) rfl rfl rfl (Nat.le_of_ble_eq_true rfl) (Nat.le_of_ble_eq_true rfl) dX12_quarrel_53 ?_
        refine qt_aload_n 1 dX12_quarrel_56 rfl rfl ?_
        refine qt_getS 157 (wl_119 h53) fe_RX12_127 rfl dX12_quarrel_57 ?_
        refine qt_iconst dX12_quarrel_60 ci_1 ?_
        refine qt_iload_n 2 dX12_quarrel_61 rfl rfl ?_
        refine qt_ishl dX12_quarrel_62 ?_
        refine qt_iald (wl_157 h53) dX12_quarrel_63 E (fun E => ?_)
        refine qt_if_le 91 dX12_quarrel_64 (by decide) E (fun E => ?_) (fun E => ?_)
        · refine qt_iconst dX12_quarrel_91 ci_0 ?_
          exact qt_ireturn rfl (Nat.le_of_ble_eq_true rfl) dX12_quarrel_92 E G
        · refine qt_aload_n 1 dX12_quarrel_67 rfl rfl ?_
          refine qt_getS 157 (wl_119 h53) fe_RX12_127 rfl dX12_quarrel_68 ?_
          refine qt_iconst dX12_quarrel_71 ci_1 ?_
          refine qt_iload_n 3 dX12_quarrel_72 rfl rfl ?_
          refine qt_ishl dX12_quarrel_73 ?_
          refine qt_iald (wl_157 h53) dX12_quarrel_74 E (fun E => ?_)
          refine qt_if_le 91 dX12_quarrel_75 (by decide) E (fun E => ?_) (fun E => ?_)
          · refine qt_iconst dX12_quarrel_91 ci_0 ?_
            exact qt_ireturn rfl (Nat.le_of_ble_eq_true rfl) dX12_quarrel_92 E G
          · refine qt_aload_n 1 dX12_quarrel_78 rfl rfl ?_
            refine qt_getS 157 (wl_119 h53) fe_RX12_127 rfl dX12_quarrel_79 ?_
            refine qt_iload_n 0 dX12_quarrel_82 rfl rfl ?_
            refine qt_iald (wl_157 h53) dX12_quarrel_83 E (fun E => ?_)
            refine qt_if_ne 91 dX12_quarrel_84 (by decide) E (fun E => ?_) (fun E => ?_)
            · refine qt_iconst dX12_quarrel_91 ci_0 ?_
              exact qt_ireturn rfl (Nat.le_of_ble_eq_true rfl) dX12_quarrel_92 E G
            · refine qt_iconst dX12_quarrel_87 ci_1 ?_
              refine qt_goto 92 dX12_quarrel_88 (by decide) ?_
              exact qt_ireturn rfl (Nat.le_of_ble_eq_true rfl) dX12_quarrel_92 E G
      · refine qt_iconst dX12_quarrel_41 ci_m1 ?_
        exact qt_ireturn rfl (Nat.le_of_ble_eq_true rfl) dX12_quarrel_42 E G
noncomputable def f_X12_bits_b4 (x1 : Int32) (x2 : Int32) (h : qa_M) : Option ((Int32 × Int32 × qa_M) ⊕ (Int32 × qa_M)) :=
  if x2 = 0 then (
   qup (some (x1, h)))
  else (
   qbd (x1 + (1 : Int32)) (fun v8 : Int32 =>
   qbd (x2 &&& (x2 - (1 : Int32))) (fun v16 : Int32 =>
   some (.inl (v8, v16, h)))))
set_option maxRecDepth 20000 in
theorem s_X12_bits_b4 {l : Launch} {g : qa_G} {d : Nat} {rz : Option Value} {hz : qa_M} (x1 : Int32) (x2 : Int32) (h : qa_M) {z : ((Int32 × Int32 × qa_M) ⊕ (Int32 × qa_M))} (E : f_X12_bits_b4 x1 x2 h = some z) (G : (Sum.elim (fun (sz : Int32 × Int32 × qa_M) => qt_At l g (yX12_bits, cX12_bits, 3, (some .int)) d 0 0 4 [(1, .int sz.1), (2, .int sz.2.1)] [] sz.2.2 rz hz) (qg_i rz hz)) z) : qt_At l g (yX12_bits, cX12_bits, 3, (some .int)) d 0 0 4 [(1, .int x1), (2, .int x2)] [] h rz hz := by
  unfold f_X12_bits_b4 at E
  refine qt_iload_n 1 dX12_bits_4 rfl rfl ?_
  refine qt_if_eq 20 dX12_bits_5 (by decide) E (fun E => ?_) (fun E => ?_)
  · refine qt_iload_n 0 dX12_bits_20 rfl rfl ?_
    obtain ⟨z0_, E, G⟩ := qup_g E G
    exact qt_ireturn rfl (Nat.le_of_ble_eq_true rfl) dX12_bits_21 E G
  · refine qt_iinc 0 (fun v8 => [(1, .int v8), (2, .int x2)]) dX12_bits_8 rfl ci_1 (Nat.le_of_ble_eq_true rfl) (fun _ => rfl) E (fun v8 E => ?_)
    refine qt_iload_n 1 dX12_bits_11 rfl rfl ?_
    refine qt_iload_n 1 dX12_bits_12 rfl rfl ?_
    refine qt_iconst dX12_bits_13 ci_1 ?_
    refine qt_isub dX12_bits_14 ?_
    refine qt_iand dX12_bits_15 ?_
    refine qt_istore_n (fun v16 => [(2, .int v16), (1, .int v8)]) dX12_bits_16 rfl (Nat.le_of_ble_eq_true rfl) (fun _ => rfl) E (fun v16 E => ?_)
    refine qt_goto 4 dX12_bits_17 (by decide) ?_
    cases E
    exact qt_sub _ [1, 0] rfl (G)
noncomputable def f_X12_bits_b4_loop (x1 : Int32) (x2 : Int32) (h : qa_M) : Option (Int32 × qa_M) := qlp (fun sz : Int32 × Int32 × qa_M => f_X12_bits_b4 sz.1 sz.2.1 sz.2.2) (x1, x2, h)
theorem s_X12_bits_b4_loop {l : Launch} {g : qa_G} {d : Nat} {rz : Option Value} {hz : qa_M} (x1 : Int32) (x2 : Int32) (h : qa_M) {z : (Int32 × qa_M)} (E : f_X12_bits_b4_loop x1 x2 h = some z) (G : (qg_i rz hz) z) : qt_At l g (yX12_bits, cX12_bits, 3, (some .int)) d 0 0 4 [(1, .int x1), (2, .int x2)] [] h rz hz :=
  qlp_ind (fun sz : Int32 × Int32 × qa_M => qt_At l g (yX12_bits, cX12_bits, 3, (some .int)) d 0 0 4 [(1, .int sz.1), (2, .int sz.2.1)] [] sz.2.2 rz hz) (fun sz E => s_X12_bits_b4 sz.1 sz.2.1 sz.2.2 E G) (fun sz sz2 E ih => s_X12_bits_b4 sz.1 sz.2.1 sz.2.2 E ih) (x1, x2, h) E
noncomputable def m_X12_bits (x0 : Int32) (h : qa_M) : Option (Int32 × qa_M) :=
  qbd (0 : Int32) (fun v1 : Int32 =>
  qbd x0 (fun v3 : Int32 =>
  f_X12_bits_b4_loop v1 v3 h))
set_option maxRecDepth 20000 in
theorem c_X12_bits {l : Launch} {g : qa_G} {d : Nat} (x0 : Int32) (h : qa_M) {c : Int32} {h1 : qa_M} (E : m_X12_bits x0 h = some (c, h1)) : qt_Met l g (yX12_bits, cX12_bits, 3, (some .int)) d 0 [.int x0] h (some (.int c)) h1 := by
  refine qt_Met.of (plainFor_of_name (by decide)) (Nat.le_of_ble_eq_true rfl) ?_
  have G : qg_i (some (.int c)) h1 ((c, h1)) := ⟨rfl, rfl⟩
  unfold m_X12_bits at E
  refine qt_iconst dX12_bits_0 ci_0 ?_
  refine qt_istore_n (fun v1 => [(1, .int v1), (0, .int x0)]) dX12_bits_1 rfl (Nat.le_of_ble_eq_true rfl) (fun _ => rfl) E (fun v1 E => ?_)
  refine qt_iload_n 1 dX12_bits_2 rfl rfl ?_
  refine qt_istore_n (fun v3 => [(2, .int v3), (1, .int v1), (0, .int x0)]) dX12_bits_3 rfl (Nat.le_of_ble_eq_true rfl) (fun _ => rfl) E (fun v3 E => ?_)
  exact qt_sub _ [1, 0] rfl ((s_X12_bits_b4_loop v1 v3 h E G))
noncomputable def f_X12_least_b93 (x1 : Int32) (x3 : Int32) (s0 : Int32) (h : qa_M) : Option ((Int32 × Int32 × Int32 × qa_M) ⊕ (Int32 × qa_M)) :=
  qbd s0 (fun v93 : Int32 =>
  qbd (x3 + (1 : Int32)) (fun v94 : Int32 =>
  some (.inl (x1, v93, v94, h))))
set_option maxRecDepth 20000 in
theorem s_X12_least_b93 {l : Launch} {g : qa_G} {d : Nat} {rz : Option Value} {hz : qa_M} (x1 : Int32) (x3 : Int32) (s0 : Int32) (h : qa_M) {z : ((Int32 × Int32 × Int32 × qa_M) ⊕ (Int32 × qa_M))} (E : f_X12_least_b93 x1 x3 s0 h = some z) (G : (Sum.elim (fun (sz : Int32 × Int32 × Int32 × qa_M) => qt_At l g (yX12_least, cX12_least, 5, (some .int)) (d + 8) 0 0 19 [(0, .ref (g.1 + 119)), (1, .int sz.1), (2, .int sz.2.1), (3, .int sz.2.2.1)] [] sz.2.2.2 rz hz) (qg_i rz hz)) z) : qt_At l g (yX12_least, cX12_least, 5, (some .int)) (d + 8) 0 0 93 [(0, .ref (g.1 + 119)), (1, .int x1), (3, .int x3)] [.int s0] h rz hz := by
  unfold f_X12_least_b93 at E
  refine qt_istore_n (fun v93 => [(2, .int v93), (0, .ref (g.1 + 119)), (1, .int x1), (3, .int x3)]) dX12_least_93 rfl (Nat.le_of_ble_eq_true rfl) (fun _ => rfl) E (fun v93 E => ?_)
  refine qt_iinc 3 (fun v94 => [(3, .int v94), (2, .int v93), (0, .ref (g.1 + 119)), (1, .int x1)]) dX12_least_94 rfl ci_1 (Nat.le_of_ble_eq_true rfl) (fun _ => rfl) E (fun v94 E => ?_)
  refine qt_goto 19 dX12_least_97 (by decide) ?_
  cases E
  exact qt_sub _ [2, 3, 1, 0] rfl (G)
noncomputable def f_X12_least_b92 (x1 : Int32) (x2 : Int32) (x3 : Int32) (h : qa_M) : Option ((Int32 × Int32 × Int32 × qa_M) ⊕ (Int32 × qa_M)) :=
  f_X12_least_b93 x1 x3 x2 h
set_option maxRecDepth 20000 in
theorem s_X12_least_b92 {l : Launch} {g : qa_G} {d : Nat} {rz : Option Value} {hz : qa_M} (x1 : Int32) (x2 : Int32) (x3 : Int32) (h : qa_M) {z : ((Int32 × Int32 × Int32 × qa_M) ⊕ (Int32 × qa_M))} (E : f_X12_least_b92 x1 x2 x3 h = some z) (G : (Sum.elim (fun (sz : Int32 × Int32 × Int32 × qa_M) => qt_At l g (yX12_least, cX12_least, 5, (some .int)) (d + 8) 0 0 19 [(0, .ref (g.1 + 119)), (1, .int sz.1), (2, .int sz.2.1), (3, .int sz.2.2.1)] [] sz.2.2.2 rz hz) (qg_i rz hz)) z) : qt_At l g (yX12_least, cX12_least, 5, (some .int)) (d + 8) 0 0 92 [(0, .ref (g.1 + 119)), (1, .int x1), (2, .int x2), (3, .int x3)] [] h rz hz := by
  unfold f_X12_least_b92 at E
  refine qt_iload_n 2 dX12_least_92 rfl rfl ?_
  exact qt_sub _ [0, 1, 3] rfl ((s_X12_least_b93 x1 x3 x2 h E G))
noncomputable def f_X12_least_b88 (x1 : Int32) (x3 : Int32) (h : qa_M) : Option ((Int32 × Int32 × Int32 × qa_M) ⊕ (Int32 × qa_M)) :=
  f_X12_least_b93 x1 x3 x3 h
set_option maxRecDepth 20000 in
theorem s_X12_least_b88 {l : Launch} {g : qa_G} {d : Nat} {rz : Option Value} {hz : qa_M} (x1 : Int32) (x3 : Int32) (h : qa_M) {z : ((Int32 × Int32 × Int32 × qa_M) ⊕ (Int32 × qa_M))} (E : f_X12_least_b88 x1 x3 h = some z) (G : (Sum.elim (fun (sz : Int32 × Int32 × Int32 × qa_M) => qt_At l g (yX12_least, cX12_least, 5, (some .int)) (d + 8) 0 0 19 [(0, .ref (g.1 + 119)), (1, .int sz.1), (2, .int sz.2.1), (3, .int sz.2.2.1)] [] sz.2.2.2 rz hz) (qg_i rz hz)) z) : qt_At l g (yX12_least, cX12_least, 5, (some .int)) (d + 8) 0 0 88 [(0, .ref (g.1 + 119)), (1, .int x1), (3, .int x3)] [] h rz hz := by
  unfold f_X12_least_b88 at E
  refine qt_iload_n 2 dX12_least_88 rfl rfl ?_
  refine qt_goto 93 dX12_least_89 (by decide) ?_
  exact qt_sub _ [0, 1, 2] rfl ((s_X12_least_b93 x1 x3 x3 h E G))
noncomputable def f_X12_least_b54 (x1 : Int32) (x2 : Int32) (x3 : Int32) (s0 : Int32) (h : qa_M) : Option ((Int32 × Int32 × Int32 × qa_M) ⊕ (Int32 × qa_M)) :=
  qbd s0 (fun v54 : Int32 =>
  if v54 = 0 then (
   f_X12_least_b92 x1 x2 x3 h)
  else (
   qbn (m_X12_bits x3 h) (fun (c62 : Int32) (h62 : qa_M) =>
   qbn (m_X12_bits x2 h62) (fun (c66 : Int32) (h66 : qa_M) =>
   if c62 < c66 then (
    f_X12_least_b88 x1 x3 h66)
   else (
    qbn (m_X12_bits x3 h66) (fun (c73 : Int32) (h73 : qa_M) =>
    qbn (m_X12_bits x2 h73) (fun (c77 : Int32) (h77 : qa_M) =>
    if c73 = c77 then (
     if x2 ≤ x3 then (
      f_X12_least_b92 x1 x2 x3 h77)
     else (
      f_X12_least_b88 x1 x3 h77))
    else (
     f_X12_least_b92 x1 x2 x3 h77))))))))
set_option maxRecDepth 20000 in
theorem s_X12_least_b54 {l : Launch} {g : qa_G} {d : Nat} {rz : Option Value} {hz : qa_M} (x1 : Int32) (x2 : Int32) (x3 : Int32) (s0 : Int32) (h : qa_M) {z : ((Int32 × Int32 × Int32 × qa_M) ⊕ (Int32 × qa_M))} (E : f_X12_least_b54 x1 x2 x3 s0 h = some z) (G : (Sum.elim (fun (sz : Int32 × Int32 × Int32 × qa_M) => qt_At l g (yX12_least, cX12_least, 5, (some .int)) (d + 8) 0 0 19 [(0, .ref (g.1 + 119)), (1, .int sz.1), (2, .int sz.2.1), (3, .int sz.2.2.1)] [] sz.2.2.2 rz hz) (qg_i rz hz)) z) : qt_At l g (yX12_least, cX12_least, 5, (some .int)) (d + 8) 0 0 54 [(0, .ref (g.1 + 119)), (1, .int x1), (2, .int x2), (3, .int x3)] [.int s0] h rz hz := by
  unfold f_X12_least_b54 at E
  refine qt_istore (fun v54 => [(4, .int v54), (0, .ref (g.1 + 119)), (1, .int x1), (2, .int x2), (3, .int x3)]) dX12_least_54 (Nat.le_of_ble_eq_true rfl) (fun _ => rfl) E (fun v54 E => ?_)
  refine qt_iload 0 dX12_least_56 rfl ?_
  refine qt_if_eq 92 dX12_least_58 (by decide) E (fun E => ?_) (fun E => ?_)
  · exact qt_sub _ [1, 2, 3, 4] rfl ((s_X12_least_b92 x1 x2 x3 h E G))
  · refine qt_iload_n 4 dX12_least_61 rfl rfl ?_
    obtain ⟨c62, h62, e62, E⟩ := qbn_el E
    refine qt_callSi (b2 := 0) [.int x3] (c_X12_bits x3 h e62) cv_RX12_479 rfl (Nat.le_of_ble_eq_true rfl) (Nat.le_of_ble_eq_true rfl) dX12_least_62 ?_
    refine qt_iload_n 3 dX12_least_65 rfl rfl ?_
    obtain ⟨c66, h66, e66, E⟩ := qbn_el E
    refine qt_callSi (b2 := 0) [.int x2] (c_X12_bits x2 h62 e66) cv_RX12_479 rfl (Nat.le_of_ble_eq_true rfl) (Nat.le_of_ble_eq_true rfl) dX12_least_66 ?_
    refine qt_icmp_lt 88 dX12_least_69 (by decide) E (fun E => ?_) (fun E => ?_)
    · exact qt_sub _ [1, 2, 4] rfl ((s_X12_least_b88 x1 x3 h66 E G))
    · refine qt_iload_n 4 dX12_least_72 rfl rfl ?_
      obtain ⟨c73, h73, e73, E⟩ := qbn_el E
      refine qt_callSi (b2 := 0) [.int x3] (c_X12_bits x3 h66 e73) cv_RX12_479 rfl (Nat.le_of_ble_eq_true rfl) (Nat.le_of_ble_eq_true rfl) dX12_least_73 ?_
      refine qt_iload_n 3 dX12_least_76 rfl rfl ?_
      obtain ⟨c77, h77, e77, E⟩ := qbn_el E
      refine qt_callSi (b2 := 0) [.int x2] (c_X12_bits x2 h73 e77) cv_RX12_479 rfl (Nat.le_of_ble_eq_true rfl) (Nat.le_of_ble_eq_true rfl) dX12_least_77 ?_
      refine qt_icmp_ne 92 dX12_least_80 (by decide) E (fun E => ?_) (fun E => ?_)
      · exact qt_sub _ [1, 2, 3, 4] rfl ((s_X12_least_b92 x1 x2 x3 h77 E G))
      · refine qt_iload_n 4 dX12_least_83 rfl rfl ?_
        refine qt_iload_n 3 dX12_least_84 rfl rfl ?_
        refine qt_icmp_ge 92 dX12_least_85 (by decide) E (fun E => ?_) (fun E => ?_)
        · exact qt_sub _ [1, 2, 3, 4] rfl ((s_X12_least_b92 x1 x2 x3 h77 E G))
        · exact qt_sub _ [1, 2, 4] rfl ((s_X12_least_b88 x1 x3 h77 E G))
noncomputable def f_X12_least_b53 (x1 : Int32) (x2 : Int32) (x3 : Int32) (h : qa_M) : Option ((Int32 × Int32 × Int32 × qa_M) ⊕ (Int32 × qa_M)) :=
  f_X12_least_b54 x1 x2 x3 (0 : Int32) h
set_option maxRecDepth 20000 in
theorem s_X12_least_b53 {l : Launch} {g : qa_G} {d : Nat} {rz : Option Value} {hz : qa_M} (x1 : Int32) (x2 : Int32) (x3 : Int32) (h : qa_M) {z : ((Int32 × Int32 × Int32 × qa_M) ⊕ (Int32 × qa_M))} (E : f_X12_least_b53 x1 x2 x3 h = some z) (G : (Sum.elim (fun (sz : Int32 × Int32 × Int32 × qa_M) => qt_At l g (yX12_least, cX12_least, 5, (some .int)) (d + 8) 0 0 19 [(0, .ref (g.1 + 119)), (1, .int sz.1), (2, .int sz.2.1), (3, .int sz.2.2.1)] [] sz.2.2.2 rz hz) (qg_i rz hz)) z) : qt_At l g (yX12_least, cX12_least, 5, (some .int)) (d + 8) 0 0 53 [(0, .ref (g.1 + 119)), (1, .int x1), (2, .int x2), (3, .int x3)] [] h rz hz := by
  unfold f_X12_least_b53 at E
  refine qt_iconst dX12_least_53 ci_0 ?_
  exact qt_sub _ [0, 1, 2, 3] rfl ((s_X12_least_b54 x1 x2 x3 (0 : Int32) h E G))
noncomputable def f_X12_least_b19 (x1 : Int32) (x2 : Int32) (x3 : Int32) (h : qa_M) : Option ((Int32 × Int32 × Int32 × qa_M) ⊕ (Int32 × qa_M)) :=
  if (1024 : Int32) ≤ x3 then (
   qup (some (x2, h)))
  else (
   if (x3 &&& (x1 ^^^ (-1 : Int32))) = 0 then (
    qck x3 1024 (
    qck x1 1024 (
    if (h.1 157 x3.toNatClampNeg) = (h.1 157 x1.toNatClampNeg) then (
     f_X12_least_b54 x1 x2 x3 (1 : Int32) h)
    else (
     f_X12_least_b53 x1 x2 x3 h))))
   else (
    f_X12_least_b53 x1 x2 x3 h))
set_option maxRecDepth 20000 in
theorem s_X12_least_b19 {l : Launch} {g : qa_G} {d : Nat} {rz : Option Value} {hz : qa_M} (x1 : Int32) (x2 : Int32) (x3 : Int32) (h : qa_M) {z : ((Int32 × Int32 × Int32 × qa_M) ⊕ (Int32 × qa_M))} (E : f_X12_least_b19 x1 x2 x3 h = some z) (G : (Sum.elim (fun (sz : Int32 × Int32 × Int32 × qa_M) => qt_At l g (yX12_least, cX12_least, 5, (some .int)) (d + 8) 0 0 19 [(0, .ref (g.1 + 119)), (1, .int sz.1), (2, .int sz.2.1), (3, .int sz.2.2.1)] [] sz.2.2.2 rz hz) (qg_i rz hz)) z) : qt_At l g (yX12_least, cX12_least, 5, (some .int)) (d + 8) 0 0 19 [(0, .ref (g.1 + 119)), (1, .int x1), (2, .int x2), (3, .int x3)] [] h rz hz := by
  unfold f_X12_least_b19 at E
  refine qt_iload_n 3 dX12_least_19 rfl rfl ?_
  refine qt_sipush dX12_least_20 cs_1024 ?_
  refine qt_icmp_ge 100 dX12_least_23 (by decide) E (fun E => ?_) (fun E => ?_)
  · refine qt_iload_n 2 dX12_least_100 rfl rfl ?_
    obtain ⟨z0_, E, G⟩ := qup_g E G
    exact qt_ireturn rfl (Nat.le_of_ble_eq_true rfl) dX12_least_101 E G
  · refine qt_iload_n 3 dX12_least_26 rfl rfl ?_
    refine qt_iload_n 1 dX12_least_27 rfl rfl ?_
    refine qt_iconst dX12_least_28 ci_m1 ?_
    refine qt_ixor dX12_least_29 ?_
    refine qt_iand dX12_least_30 ?_
    refine qt_if_ne 53 dX12_least_31 (by decide) E (fun E => ?_) (fun E => ?_)
    · exact qt_sub _ [0, 1, 2, 3] rfl ((s_X12_least_b53 x1 x2 x3 h E G))
    · refine qt_aload_n 0 dX12_least_34 rfl rfl ?_
      refine qt_getS 157 (wl_119 h) fe_RX12_127 rfl dX12_least_35 ?_
      refine qt_iload_n 3 dX12_least_38 rfl rfl ?_
      refine qt_iald (wl_157 h) dX12_least_39 E (fun E => ?_)
      refine qt_aload_n 0 dX12_least_40 rfl rfl ?_
      refine qt_getS 157 (wl_119 h) fe_RX12_127 rfl dX12_least_41 ?_
      refine qt_iload_n 1 dX12_least_44 rfl rfl ?_
      refine qt_iald (wl_157 h) dX12_least_45 E (fun E => ?_)
      refine qt_icmp_ne 53 dX12_least_46 (by decide) E (fun E => ?_) (fun E => ?_)
      · exact qt_sub _ [0, 1, 2, 3] rfl ((s_X12_least_b53 x1 x2 x3 h E G))
      · refine qt_iconst dX12_least_49 ci_1 ?_
        refine qt_goto 54 dX12_least_50 (by decide) ?_
        exact qt_sub _ [0, 1, 2, 3] rfl ((s_X12_least_b54 x1 x2 x3 (1 : Int32) h E G))
noncomputable def f_X12_least_b19_loop (x1 : Int32) (x2 : Int32) (x3 : Int32) (h : qa_M) : Option (Int32 × qa_M) := qlp (fun sz : Int32 × Int32 × Int32 × qa_M => f_X12_least_b19 sz.1 sz.2.1 sz.2.2.1 sz.2.2.2) (x1, x2, x3, h)
theorem s_X12_least_b19_loop {l : Launch} {g : qa_G} {d : Nat} {rz : Option Value} {hz : qa_M} (x1 : Int32) (x2 : Int32) (x3 : Int32) (h : qa_M) {z : (Int32 × qa_M)} (E : f_X12_least_b19_loop x1 x2 x3 h = some z) (G : (qg_i rz hz) z) : qt_At l g (yX12_least, cX12_least, 5, (some .int)) (d + 8) 0 0 19 [(0, .ref (g.1 + 119)), (1, .int x1), (2, .int x2), (3, .int x3)] [] h rz hz :=
  qlp_ind (fun sz : Int32 × Int32 × Int32 × qa_M => qt_At l g (yX12_least, cX12_least, 5, (some .int)) (d + 8) 0 0 19 [(0, .ref (g.1 + 119)), (1, .int sz.1), (2, .int sz.2.1), (3, .int sz.2.2.1)] [] sz.2.2.2 rz hz) (fun sz E => s_X12_least_b19 sz.1 sz.2.1 sz.2.2.1 sz.2.2.2 E G) (fun sz sz2 E ih => s_X12_least_b19 sz.1 sz.2.1 sz.2.2.1 sz.2.2.2 E ih) (x1, x2, x3, h) E
noncomputable def m_X12_least (x1 : Int32) (h : qa_M) : Option (Int32 × qa_M) :=
  qbn (m_X12_isSet x1 h) (fun (c2 : Int32) (h2 : qa_M) =>
  if c2 = 0 then (
   some ((-1 : Int32), h2))
  else (
   qbv (m_X12_fillsFitting x1 h2) (fun h12 : qa_M =>
   qbd x1 (fun v16 : Int32 =>
   qbd (0 : Int32) (fun v18 : Int32 =>
   f_X12_least_b19_loop x1 v16 v18 h12)))))
set_option maxRecDepth 20000 in
theorem c_X12_least {l : Launch} {g : qa_G} {d : Nat} (x1 : Int32) (h : qa_M) {c : Int32} {h1 : qa_M} (E : m_X12_least x1 h = some (c, h1)) : qt_Met l g (yX12_least, cX12_least, 5, (some .int)) (d + 8) 0 [.ref (g.1 + 119), .int x1] h (some (.int c)) h1 := by
  refine qt_Met.of (plainFor_of_name (by decide)) (Nat.le_of_ble_eq_true rfl) ?_
  have G : qg_i (some (.int c)) h1 ((c, h1)) := ⟨rfl, rfl⟩
  unfold m_X12_least at E
  refine qt_aload_n 0 dX12_least_0 rfl rfl ?_
  refine qt_iload_n 1 dX12_least_1 rfl rfl ?_
  obtain ⟨c2, h2, e2, E⟩ := qbn_el E
  refine qt_callVi (b2 := 0) [.int x1] (c_X12_isSet x1 h e2) cv_RX12_452 (wl_119 h) rfl rfl rfl (Nat.le_of_ble_eq_true rfl) (Nat.le_of_ble_eq_true rfl) dX12_least_2 ?_
  refine qt_if_ne 10 dX12_least_5 (by decide) E (fun E => ?_) (fun E => ?_)
  · refine qt_aload_n 0 dX12_least_10 rfl rfl ?_
    refine qt_iload_n 1 dX12_least_11 rfl rfl ?_
    obtain ⟨h12, e12, E⟩ := qbv_el E
    refine qt_callVv (b2 := 0) [.int x1] (c_X12_fillsFitting x1 h2 e12) cv_RX12_476 (wl_119 h2) rfl rfl rfl (Nat.le_of_ble_eq_true rfl) (Nat.le_of_ble_eq_true rfl) dX12_least_12 ?_
    refine qt_iload_n 1 dX12_least_15 rfl rfl ?_
    refine qt_istore_n (fun v16 => [(2, .int v16), (0, .ref (g.1 + 119)), (1, .int x1)]) dX12_least_16 rfl (Nat.le_of_ble_eq_true rfl) (fun _ => rfl) E (fun v16 E => ?_)
    refine qt_iconst dX12_least_17 ci_0 ?_
    refine qt_istore_n (fun v18 => [(3, .int v18), (2, .int v16), (0, .ref (g.1 + 119)), (1, .int x1)]) dX12_least_18 rfl (Nat.le_of_ble_eq_true rfl) (fun _ => rfl) E (fun v18 E => ?_)
    exact qt_sub _ [2, 3, 1, 0] rfl ((s_X12_least_b19_loop x1 v16 v18 h12 E G))
  · refine qt_iconst dX12_least_8 ci_m1 ?_
    exact qt_ireturn rfl (Nat.le_of_ble_eq_true rfl) dX12_least_9 E G
noncomputable def f_X12_careless_b82 (x1 : Int32) (x3 : Int32) (s0 : Int32) (h : qa_M) : Option ((Int32 × Int32 × Int32 × qa_M) ⊕ (Int32 × qa_M)) :=
  qbd s0 (fun v82 : Int32 =>
  qbd (x3 + (1 : Int32)) (fun v83 : Int32 =>
  some (.inl (x1, v82, v83, h))))
set_option maxRecDepth 20000 in
theorem s_X12_careless_b82 {l : Launch} {g : qa_G} {d : Nat} {rz : Option Value} {hz : qa_M} (x1 : Int32) (x3 : Int32) (s0 : Int32) (h : qa_M) {z : ((Int32 × Int32 × Int32 × qa_M) ⊕ (Int32 × qa_M))} (E : f_X12_careless_b82 x1 x3 s0 h = some z) (G : (Sum.elim (fun (sz : Int32 × Int32 × Int32 × qa_M) => qt_At l g (yX12_careless, cX12_careless, 5, (some .int)) (d + 8) 0 0 20 [(0, .ref (g.1 + 119)), (1, .int sz.1), (2, .int sz.2.1), (3, .int sz.2.2.1)] [] sz.2.2.2 rz hz) (qg_i rz hz)) z) : qt_At l g (yX12_careless, cX12_careless, 5, (some .int)) (d + 8) 0 0 82 [(0, .ref (g.1 + 119)), (1, .int x1), (3, .int x3)] [.int s0] h rz hz := by
  unfold f_X12_careless_b82 at E
  refine qt_istore_n (fun v82 => [(2, .int v82), (0, .ref (g.1 + 119)), (1, .int x1), (3, .int x3)]) dX12_careless_82 rfl (Nat.le_of_ble_eq_true rfl) (fun _ => rfl) E (fun v82 E => ?_)
  refine qt_iinc 3 (fun v83 => [(3, .int v83), (2, .int v82), (0, .ref (g.1 + 119)), (1, .int x1)]) dX12_careless_83 rfl ci_1 (Nat.le_of_ble_eq_true rfl) (fun _ => rfl) E (fun v83 E => ?_)
  refine qt_goto 20 dX12_careless_86 (by decide) ?_
  cases E
  exact qt_sub _ [2, 3, 1, 0] rfl (G)
noncomputable def f_X12_careless_b81 (x1 : Int32) (x2 : Int32) (x3 : Int32) (h : qa_M) : Option ((Int32 × Int32 × Int32 × qa_M) ⊕ (Int32 × qa_M)) :=
  f_X12_careless_b82 x1 x3 x2 h
set_option maxRecDepth 20000 in
theorem s_X12_careless_b81 {l : Launch} {g : qa_G} {d : Nat} {rz : Option Value} {hz : qa_M} (x1 : Int32) (x2 : Int32) (x3 : Int32) (h : qa_M) {z : ((Int32 × Int32 × Int32 × qa_M) ⊕ (Int32 × qa_M))} (E : f_X12_careless_b81 x1 x2 x3 h = some z) (G : (Sum.elim (fun (sz : Int32 × Int32 × Int32 × qa_M) => qt_At l g (yX12_careless, cX12_careless, 5, (some .int)) (d + 8) 0 0 20 [(0, .ref (g.1 + 119)), (1, .int sz.1), (2, .int sz.2.1), (3, .int sz.2.2.1)] [] sz.2.2.2 rz hz) (qg_i rz hz)) z) : qt_At l g (yX12_careless, cX12_careless, 5, (some .int)) (d + 8) 0 0 81 [(0, .ref (g.1 + 119)), (1, .int x1), (2, .int x2), (3, .int x3)] [] h rz hz := by
  unfold f_X12_careless_b81 at E
  refine qt_iload_n 2 dX12_careless_81 rfl rfl ?_
  exact qt_sub _ [0, 1, 3] rfl ((s_X12_careless_b82 x1 x3 x2 h E G))
noncomputable def f_X12_careless_b77 (x1 : Int32) (x3 : Int32) (h : qa_M) : Option ((Int32 × Int32 × Int32 × qa_M) ⊕ (Int32 × qa_M)) :=
  f_X12_careless_b82 x1 x3 x3 h
set_option maxRecDepth 20000 in
theorem s_X12_careless_b77 {l : Launch} {g : qa_G} {d : Nat} {rz : Option Value} {hz : qa_M} (x1 : Int32) (x3 : Int32) (h : qa_M) {z : ((Int32 × Int32 × Int32 × qa_M) ⊕ (Int32 × qa_M))} (E : f_X12_careless_b77 x1 x3 h = some z) (G : (Sum.elim (fun (sz : Int32 × Int32 × Int32 × qa_M) => qt_At l g (yX12_careless, cX12_careless, 5, (some .int)) (d + 8) 0 0 20 [(0, .ref (g.1 + 119)), (1, .int sz.1), (2, .int sz.2.1), (3, .int sz.2.2.1)] [] sz.2.2.2 rz hz) (qg_i rz hz)) z) : qt_At l g (yX12_careless, cX12_careless, 5, (some .int)) (d + 8) 0 0 77 [(0, .ref (g.1 + 119)), (1, .int x1), (3, .int x3)] [] h rz hz := by
  unfold f_X12_careless_b77 at E
  refine qt_iload_n 2 dX12_careless_77 rfl rfl ?_
  refine qt_goto 82 dX12_careless_78 (by decide) ?_
  exact qt_sub _ [0, 1, 2] rfl ((s_X12_careless_b82 x1 x3 x3 h E G))
noncomputable def f_X12_careless_b53 (x1 : Int32) (x2 : Int32) (x3 : Int32) (s0 : Int32) (h : qa_M) : Option ((Int32 × Int32 × Int32 × qa_M) ⊕ (Int32 × qa_M)) :=
  qbd s0 (fun v53 : Int32 =>
  if v53 = 0 then (
   f_X12_careless_b81 x1 x2 x3 h)
  else (
   if x2 = (-2 : Int32) then (
    f_X12_careless_b77 x1 x3 h)
   else (
    qbn (m_X12_bits x3 h) (fun (c67 : Int32) (h67 : qa_M) =>
    qbn (m_X12_bits x2 h67) (fun (c71 : Int32) (h71 : qa_M) =>
    if c71 ≤ c67 then (
     f_X12_careless_b81 x1 x2 x3 h71)
    else (
     f_X12_careless_b77 x1 x3 h71))))))
set_option maxRecDepth 20000 in
theorem s_X12_careless_b53 {l : Launch} {g : qa_G} {d : Nat} {rz : Option Value} {hz : qa_M} (x1 : Int32) (x2 : Int32) (x3 : Int32) (s0 : Int32) (h : qa_M) {z : ((Int32 × Int32 × Int32 × qa_M) ⊕ (Int32 × qa_M))} (E : f_X12_careless_b53 x1 x2 x3 s0 h = some z) (G : (Sum.elim (fun (sz : Int32 × Int32 × Int32 × qa_M) => qt_At l g (yX12_careless, cX12_careless, 5, (some .int)) (d + 8) 0 0 20 [(0, .ref (g.1 + 119)), (1, .int sz.1), (2, .int sz.2.1), (3, .int sz.2.2.1)] [] sz.2.2.2 rz hz) (qg_i rz hz)) z) : qt_At l g (yX12_careless, cX12_careless, 5, (some .int)) (d + 8) 0 0 53 [(0, .ref (g.1 + 119)), (1, .int x1), (2, .int x2), (3, .int x3)] [.int s0] h rz hz := by
  unfold f_X12_careless_b53 at E
  refine qt_istore (fun v53 => [(4, .int v53), (0, .ref (g.1 + 119)), (1, .int x1), (2, .int x2), (3, .int x3)]) dX12_careless_53 (Nat.le_of_ble_eq_true rfl) (fun _ => rfl) E (fun v53 E => ?_)
  refine qt_iload 0 dX12_careless_55 rfl ?_
  refine qt_if_eq 81 dX12_careless_57 (by decide) E (fun E => ?_) (fun E => ?_)
  · exact qt_sub _ [1, 2, 3, 4] rfl ((s_X12_careless_b81 x1 x2 x3 h E G))
  · refine qt_iload_n 3 dX12_careless_60 rfl rfl ?_
    refine qt_bipush dX12_careless_61 cb_m2 ?_
    refine qt_icmp_eq 77 dX12_careless_63 (by decide) E (fun E => ?_) (fun E => ?_)
    · exact qt_sub _ [1, 2, 4] rfl ((s_X12_careless_b77 x1 x3 h E G))
    · refine qt_iload_n 4 dX12_careless_66 rfl rfl ?_
      obtain ⟨c67, h67, e67, E⟩ := qbn_el E
      refine qt_callSi (b2 := 0) [.int x3] (c_X12_bits x3 h e67) cv_RX12_479 rfl (Nat.le_of_ble_eq_true rfl) (Nat.le_of_ble_eq_true rfl) dX12_careless_67 ?_
      refine qt_iload_n 3 dX12_careless_70 rfl rfl ?_
      obtain ⟨c71, h71, e71, E⟩ := qbn_el E
      refine qt_callSi (b2 := 0) [.int x2] (c_X12_bits x2 h67 e71) cv_RX12_479 rfl (Nat.le_of_ble_eq_true rfl) (Nat.le_of_ble_eq_true rfl) dX12_careless_71 ?_
      refine qt_icmp_ge 81 dX12_careless_74 (by decide) E (fun E => ?_) (fun E => ?_)
      · exact qt_sub _ [1, 2, 3, 4] rfl ((s_X12_careless_b81 x1 x2 x3 h71 E G))
      · exact qt_sub _ [1, 2, 4] rfl ((s_X12_careless_b77 x1 x3 h71 E G))
noncomputable def f_X12_careless_b52 (x1 : Int32) (x2 : Int32) (x3 : Int32) (h : qa_M) : Option ((Int32 × Int32 × Int32 × qa_M) ⊕ (Int32 × qa_M)) :=
  f_X12_careless_b53 x1 x2 x3 (0 : Int32) h
set_option maxRecDepth 20000 in
theorem s_X12_careless_b52 {l : Launch} {g : qa_G} {d : Nat} {rz : Option Value} {hz : qa_M} (x1 : Int32) (x2 : Int32) (x3 : Int32) (h : qa_M) {z : ((Int32 × Int32 × Int32 × qa_M) ⊕ (Int32 × qa_M))} (E : f_X12_careless_b52 x1 x2 x3 h = some z) (G : (Sum.elim (fun (sz : Int32 × Int32 × Int32 × qa_M) => qt_At l g (yX12_careless, cX12_careless, 5, (some .int)) (d + 8) 0 0 20 [(0, .ref (g.1 + 119)), (1, .int sz.1), (2, .int sz.2.1), (3, .int sz.2.2.1)] [] sz.2.2.2 rz hz) (qg_i rz hz)) z) : qt_At l g (yX12_careless, cX12_careless, 5, (some .int)) (d + 8) 0 0 52 [(0, .ref (g.1 + 119)), (1, .int x1), (2, .int x2), (3, .int x3)] [] h rz hz := by
  unfold f_X12_careless_b52 at E
  refine qt_iconst dX12_careless_52 ci_0 ?_
  exact qt_sub _ [0, 1, 2, 3] rfl ((s_X12_careless_b53 x1 x2 x3 (0 : Int32) h E G))
noncomputable def f_X12_careless_b20 (x1 : Int32) (x2 : Int32) (x3 : Int32) (h : qa_M) : Option ((Int32 × Int32 × Int32 × qa_M) ⊕ (Int32 × qa_M)) :=
  if (1024 : Int32) ≤ x3 then (
   qup (some (x2, h)))
  else (
   if (x3 &&& (x1 ^^^ (-1 : Int32))) = 0 then (
    qck (x1 &&& (x3 ^^^ (-1 : Int32))) 1024 (
    if (h.1 157 (x1 &&& (x3 ^^^ (-1 : Int32))).toNatClampNeg) ≤ 0 then (
     f_X12_careless_b52 x1 x2 x3 h)
    else (
     f_X12_careless_b53 x1 x2 x3 (1 : Int32) h)))
   else (
    f_X12_careless_b52 x1 x2 x3 h))
set_option maxRecDepth 20000 in
theorem s_X12_careless_b20 {l : Launch} {g : qa_G} {d : Nat} {rz : Option Value} {hz : qa_M} (x1 : Int32) (x2 : Int32) (x3 : Int32) (h : qa_M) {z : ((Int32 × Int32 × Int32 × qa_M) ⊕ (Int32 × qa_M))} (E : f_X12_careless_b20 x1 x2 x3 h = some z) (G : (Sum.elim (fun (sz : Int32 × Int32 × Int32 × qa_M) => qt_At l g (yX12_careless, cX12_careless, 5, (some .int)) (d + 8) 0 0 20 [(0, .ref (g.1 + 119)), (1, .int sz.1), (2, .int sz.2.1), (3, .int sz.2.2.1)] [] sz.2.2.2 rz hz) (qg_i rz hz)) z) : qt_At l g (yX12_careless, cX12_careless, 5, (some .int)) (d + 8) 0 0 20 [(0, .ref (g.1 + 119)), (1, .int x1), (2, .int x2), (3, .int x3)] [] h rz hz := by
  unfold f_X12_careless_b20 at E
  refine qt_iload_n 3 dX12_careless_20 rfl rfl ?_
  refine qt_sipush dX12_careless_21 cs_1024 ?_
  refine qt_icmp_ge 89 dX12_careless_24 (by decide) E (fun E => ?_) (fun E => ?_)
  · refine qt_iload_n 2 dX12_careless_89 rfl rfl ?_
    obtain ⟨z0_, E, G⟩ := qup_g E G
    exact qt_ireturn rfl (Nat.le_of_ble_eq_true rfl) dX12_careless_90 E G
  · refine qt_iload_n 3 dX12_careless_27 rfl rfl ?_
    refine qt_iload_n 1 dX12_careless_28 rfl rfl ?_
    refine qt_iconst dX12_careless_29 ci_m1 ?_
    refine qt_ixor dX12_careless_30 ?_
    refine qt_iand dX12_careless_31 ?_
    refine qt_if_ne 52 dX12_careless_32 (by decide) E (fun E => ?_) (fun E => ?_)
    · exact qt_sub _ [0, 1, 2, 3] rfl ((s_X12_careless_b52 x1 x2 x3 h E G))
    · refine qt_aload_n 0 dX12_careless_35 rfl rfl ?_
      refine qt_getS 157 (wl_119 h) fe_RX12_127 rfl dX12_careless_36 ?_
      refine qt_iload_n 1 dX12_careless_39 rfl rfl ?_
      refine qt_iload_n 3 dX12_careless_40 rfl rfl ?_
      refine qt_iconst dX12_careless_41 ci_m1 ?_
      refine qt_ixor dX12_careless_42 ?_
      refine qt_iand dX12_careless_43 ?_
      refine qt_iald (wl_157 h) dX12_careless_44 E (fun E => ?_)
      refine qt_if_le 52 dX12_careless_45 (by decide) E (fun E => ?_) (fun E => ?_)
      · exact qt_sub _ [0, 1, 2, 3] rfl ((s_X12_careless_b52 x1 x2 x3 h E G))
      · refine qt_iconst dX12_careless_48 ci_1 ?_
        refine qt_goto 53 dX12_careless_49 (by decide) ?_
        exact qt_sub _ [0, 1, 2, 3] rfl ((s_X12_careless_b53 x1 x2 x3 (1 : Int32) h E G))
noncomputable def f_X12_careless_b20_loop (x1 : Int32) (x2 : Int32) (x3 : Int32) (h : qa_M) : Option (Int32 × qa_M) := qlp (fun sz : Int32 × Int32 × Int32 × qa_M => f_X12_careless_b20 sz.1 sz.2.1 sz.2.2.1 sz.2.2.2) (x1, x2, x3, h)
theorem s_X12_careless_b20_loop {l : Launch} {g : qa_G} {d : Nat} {rz : Option Value} {hz : qa_M} (x1 : Int32) (x2 : Int32) (x3 : Int32) (h : qa_M) {z : (Int32 × qa_M)} (E : f_X12_careless_b20_loop x1 x2 x3 h = some z) (G : (qg_i rz hz) z) : qt_At l g (yX12_careless, cX12_careless, 5, (some .int)) (d + 8) 0 0 20 [(0, .ref (g.1 + 119)), (1, .int x1), (2, .int x2), (3, .int x3)] [] h rz hz :=
  qlp_ind (fun sz : Int32 × Int32 × Int32 × qa_M => qt_At l g (yX12_careless, cX12_careless, 5, (some .int)) (d + 8) 0 0 20 [(0, .ref (g.1 + 119)), (1, .int sz.1), (2, .int sz.2.1), (3, .int sz.2.2.1)] [] sz.2.2.2 rz hz) (fun sz E => s_X12_careless_b20 sz.1 sz.2.1 sz.2.2.1 sz.2.2.2 E G) (fun sz sz2 E ih => s_X12_careless_b20 sz.1 sz.2.1 sz.2.2.1 sz.2.2.2 E ih) (x1, x2, x3, h) E
noncomputable def m_X12_careless (x1 : Int32) (h : qa_M) : Option (Int32 × qa_M) :=
  qbn (m_X12_isSet x1 h) (fun (c2 : Int32) (h2 : qa_M) =>
  if c2 = 0 then (
   some ((-1 : Int32), h2))
  else (
   qbv (m_X12_fillsFitting x1 h2) (fun h12 : qa_M =>
   qbd (-2 : Int32) (fun v17 : Int32 =>
   qbd (0 : Int32) (fun v19 : Int32 =>
   f_X12_careless_b20_loop x1 v17 v19 h12)))))
set_option maxRecDepth 20000 in
theorem c_X12_careless {l : Launch} {g : qa_G} {d : Nat} (x1 : Int32) (h : qa_M) {c : Int32} {h1 : qa_M} (E : m_X12_careless x1 h = some (c, h1)) : qt_Met l g (yX12_careless, cX12_careless, 5, (some .int)) (d + 8) 0 [.ref (g.1 + 119), .int x1] h (some (.int c)) h1 := by
  refine qt_Met.of (plainFor_of_name (by decide)) (Nat.le_of_ble_eq_true rfl) ?_
  have G : qg_i (some (.int c)) h1 ((c, h1)) := ⟨rfl, rfl⟩
  unfold m_X12_careless at E
  refine qt_aload_n 0 dX12_careless_0 rfl rfl ?_
  refine qt_iload_n 1 dX12_careless_1 rfl rfl ?_
  obtain ⟨c2, h2, e2, E⟩ := qbn_el E
  refine qt_callVi (b2 := 0) [.int x1] (c_X12_isSet x1 h e2) cv_RX12_452 (wl_119 h) rfl rfl rfl (Nat.le_of_ble_eq_true rfl) (Nat.le_of_ble_eq_true rfl) dX12_careless_2 ?_
  refine qt_if_ne 10 dX12_careless_5 (by decide) E (fun E => ?_) (fun E => ?_)
  · refine qt_aload_n 0 dX12_careless_10 rfl rfl ?_
    refine qt_iload_n 1 dX12_careless_11 rfl rfl ?_
    obtain ⟨h12, e12, E⟩ := qbv_el E
    refine qt_callVv (b2 := 0) [.int x1] (c_X12_fillsFitting x1 h2 e12) cv_RX12_476 (wl_119 h2) rfl rfl rfl (Nat.le_of_ble_eq_true rfl) (Nat.le_of_ble_eq_true rfl) dX12_careless_12 ?_
    refine qt_bipush dX12_careless_15 cb_m2 ?_
    refine qt_istore_n (fun v17 => [(2, .int v17), (0, .ref (g.1 + 119)), (1, .int x1)]) dX12_careless_17 rfl (Nat.le_of_ble_eq_true rfl) (fun _ => rfl) E (fun v17 E => ?_)
    refine qt_iconst dX12_careless_18 ci_0 ?_
    refine qt_istore_n (fun v19 => [(3, .int v19), (2, .int v17), (0, .ref (g.1 + 119)), (1, .int x1)]) dX12_careless_19 rfl (Nat.le_of_ble_eq_true rfl) (fun _ => rfl) E (fun v19 E => ?_)
    exact qt_sub _ [2, 3, 1, 0] rfl ((s_X12_careless_b20_loop x1 v17 v19 h12 E G))
  · refine qt_iconst dX12_careless_8 ci_m1 ?_
    exact qt_ireturn rfl (Nat.le_of_ble_eq_true rfl) dX12_careless_9 E G
noncomputable def f_X12_notesBy_b50 (x1 : Int32) (x2 : Int32) (x4 : Int32) (s0 : Int32) (s1 : Int32) (h : qa_M) : Option ((Int32 × Int32 × Int32 × Int32 × qa_M) ⊕ (Int32 × qa_M)) :=
  qbd (s0 ||| s1) (fun v51 : Int32 =>
  qbd (x4 + (1 : Int32)) (fun v52 : Int32 =>
  some (.inl (x1, x2, v51, v52, h))))
set_option maxRecDepth 20000 in
theorem s_X12_notesBy_b50 {l : Launch} {g : qa_G} {d : Nat} {rz : Option Value} {hz : qa_M} (x1 : Int32) (x2 : Int32) (x4 : Int32) (s0 : Int32) (s1 : Int32) (h : qa_M) {z : ((Int32 × Int32 × Int32 × Int32 × qa_M) ⊕ (Int32 × qa_M))} (E : f_X12_notesBy_b50 x1 x2 x4 s0 s1 h = some z) (G : (Sum.elim (fun (sz : Int32 × Int32 × Int32 × Int32 × qa_M) => qt_At l g (yX12_notesBy, cX12_notesBy, 5, (some .int)) (d + 1) 0 0 5 [(0, .ref (g.1 + 119)), (1, .int sz.1), (2, .int sz.2.1), (3, .int sz.2.2.1), (4, .int sz.2.2.2.1)] [] sz.2.2.2.2 rz hz) (qg_i rz hz)) z) : qt_At l g (yX12_notesBy, cX12_notesBy, 5, (some .int)) (d + 1) 0 0 50 [(0, .ref (g.1 + 119)), (1, .int x1), (2, .int x2), (4, .int x4)] [.int s1, .int s0] h rz hz := by
  unfold f_X12_notesBy_b50 at E
  refine qt_ior dX12_notesBy_50 ?_
  refine qt_istore_n (fun v51 => [(3, .int v51), (0, .ref (g.1 + 119)), (1, .int x1), (2, .int x2), (4, .int x4)]) dX12_notesBy_51 rfl (Nat.le_of_ble_eq_true rfl) (fun _ => rfl) E (fun v51 E => ?_)
  refine qt_iinc 4 (fun v52 => [(4, .int v52), (3, .int v51), (0, .ref (g.1 + 119)), (1, .int x1), (2, .int x2)]) dX12_notesBy_52 rfl ci_1 (Nat.le_of_ble_eq_true rfl) (fun _ => rfl) E (fun v52 E => ?_)
  refine qt_goto 5 dX12_notesBy_55 (by decide) ?_
  cases E
  exact qt_sub _ [2, 3, 4, 1, 0] rfl (G)
noncomputable def f_X12_notesBy_b49 (x1 : Int32) (x2 : Int32) (x4 : Int32) (s0 : Int32) (h : qa_M) : Option ((Int32 × Int32 × Int32 × Int32 × qa_M) ⊕ (Int32 × qa_M)) :=
  f_X12_notesBy_b50 x1 x2 x4 s0 (0 : Int32) h
set_option maxRecDepth 20000 in
theorem s_X12_notesBy_b49 {l : Launch} {g : qa_G} {d : Nat} {rz : Option Value} {hz : qa_M} (x1 : Int32) (x2 : Int32) (x4 : Int32) (s0 : Int32) (h : qa_M) {z : ((Int32 × Int32 × Int32 × Int32 × qa_M) ⊕ (Int32 × qa_M))} (E : f_X12_notesBy_b49 x1 x2 x4 s0 h = some z) (G : (Sum.elim (fun (sz : Int32 × Int32 × Int32 × Int32 × qa_M) => qt_At l g (yX12_notesBy, cX12_notesBy, 5, (some .int)) (d + 1) 0 0 5 [(0, .ref (g.1 + 119)), (1, .int sz.1), (2, .int sz.2.1), (3, .int sz.2.2.1), (4, .int sz.2.2.2.1)] [] sz.2.2.2.2 rz hz) (qg_i rz hz)) z) : qt_At l g (yX12_notesBy, cX12_notesBy, 5, (some .int)) (d + 1) 0 0 49 [(0, .ref (g.1 + 119)), (1, .int x1), (2, .int x2), (4, .int x4)] [.int s0] h rz hz := by
  unfold f_X12_notesBy_b49 at E
  refine qt_iconst dX12_notesBy_49 ci_0 ?_
  exact qt_sub _ [0, 1, 2, 3] rfl ((s_X12_notesBy_b50 x1 x2 x4 s0 (0 : Int32) h E G))
noncomputable def f_X12_notesBy_b5 (x1 : Int32) (x2 : Int32) (x3 : Int32) (x4 : Int32) (h : qa_M) : Option ((Int32 × Int32 × Int32 × Int32 × qa_M) ⊕ (Int32 × qa_M)) :=
  qck (5 : Int32) 8 (
  if (h.1 120 (5 : Int32).toNatClampNeg) ≤ x4 then (
   qup (some (x3, h)))
  else (
   qbn (m_X12_has x1.toInt64 x4 h) (fun (c21 : Int32) (h21 : qa_M) =>
   if c21 = 0 then (
    f_X12_notesBy_b49 x1 x2 x4 x3 h21)
   else (
    qck x4 10 (
    qbn (m_X12_has x2.toInt64 (h21.1 127 x4.toNatClampNeg) h21) (fun (c36 : Int32) (h36 : qa_M) =>
    if c36 = 0 then (
     f_X12_notesBy_b49 x1 x2 x4 x3 h36)
    else (
     f_X12_notesBy_b50 x1 x2 x4 x3 ((1 : Int32) <<< (x4 &&& 31)) h36)))))))
set_option maxRecDepth 20000 in
theorem s_X12_notesBy_b5 {l : Launch} {g : qa_G} {d : Nat} {rz : Option Value} {hz : qa_M} (x1 : Int32) (x2 : Int32) (x3 : Int32) (x4 : Int32) (h : qa_M) {z : ((Int32 × Int32 × Int32 × Int32 × qa_M) ⊕ (Int32 × qa_M))} (E : f_X12_notesBy_b5 x1 x2 x3 x4 h = some z) (G : (Sum.elim (fun (sz : Int32 × Int32 × Int32 × Int32 × qa_M) => qt_At l g (yX12_notesBy, cX12_notesBy, 5, (some .int)) (d + 1) 0 0 5 [(0, .ref (g.1 + 119)), (1, .int sz.1), (2, .int sz.2.1), (3, .int sz.2.2.1), (4, .int sz.2.2.2.1)] [] sz.2.2.2.2 rz hz) (qg_i rz hz)) z) : qt_At l g (yX12_notesBy, cX12_notesBy, 5, (some .int)) (d + 1) 0 0 5 [(0, .ref (g.1 + 119)), (1, .int x1), (2, .int x2), (3, .int x3), (4, .int x4)] [] h rz hz := by
  unfold f_X12_notesBy_b5 at E
  refine qt_iload 4 dX12_notesBy_5 rfl ?_
  refine qt_aload_n 0 dX12_notesBy_7 rfl rfl ?_
  refine qt_getS 120 (wl_119 h) fe_RX12_7 rfl dX12_notesBy_8 ?_
  refine qt_iconst dX12_notesBy_11 ci_5 ?_
  refine qt_iald (wl_120 h) dX12_notesBy_12 E (fun E => ?_)
  refine qt_icmp_ge 58 dX12_notesBy_13 (by decide) E (fun E => ?_) (fun E => ?_)
  · refine qt_iload_n 3 dX12_notesBy_58 rfl rfl ?_
    obtain ⟨z0_, E, G⟩ := qup_g E G
    exact qt_ireturn rfl (Nat.le_of_ble_eq_true rfl) dX12_notesBy_59 E G
  · refine qt_iload_n 3 dX12_notesBy_16 rfl rfl ?_
    refine qt_iload_n 1 dX12_notesBy_17 rfl rfl ?_
    refine qt_i2l dX12_notesBy_18 ?_
    refine qt_iload 4 dX12_notesBy_19 rfl ?_
    obtain ⟨c21, h21, e21, E⟩ := qbn_el E
    refine qt_callSi (b2 := 0) [.long x1.toInt64, .int x4] (c_X12_has x1.toInt64 x4 h e21) cv_RX12_211 rfl (Nat.le_of_ble_eq_true rfl) (Nat.le_of_ble_eq_true rfl) dX12_notesBy_21 ?_
    refine qt_if_eq 49 dX12_notesBy_24 (by decide) E (fun E => ?_) (fun E => ?_)
    · exact qt_sub _ [0, 1, 2, 4] rfl ((s_X12_notesBy_b49 x1 x2 x4 x3 h21 E G))
    · refine qt_iload_n 2 dX12_notesBy_27 rfl rfl ?_
      refine qt_i2l dX12_notesBy_28 ?_
      refine qt_aload_n 0 dX12_notesBy_29 rfl rfl ?_
      refine qt_getS 127 (wl_119 h21) fe_RX12_31 rfl dX12_notesBy_30 ?_
      refine qt_iload 4 dX12_notesBy_33 rfl ?_
      refine qt_iald (wl_127 h21) dX12_notesBy_35 E (fun E => ?_)
      obtain ⟨c36, h36, e36, E⟩ := qbn_el E
      refine qt_callSi (b2 := 0) [.long x2.toInt64, .int (h21.1 127 x4.toNatClampNeg)] (c_X12_has x2.toInt64 (h21.1 127 x4.toNatClampNeg) h21 e36) cv_RX12_211 rfl (Nat.le_of_ble_eq_true rfl) (Nat.le_of_ble_eq_true rfl) dX12_notesBy_36 ?_
      refine qt_if_eq 49 dX12_notesBy_39 (by decide) E (fun E => ?_) (fun E => ?_)
      · exact qt_sub _ [0, 1, 2, 4] rfl ((s_X12_notesBy_b49 x1 x2 x4 x3 h36 E G))
      · refine qt_iconst dX12_notesBy_42 ci_1 ?_
        refine qt_iload 4 dX12_notesBy_43 rfl ?_
        refine qt_ishl dX12_notesBy_45 ?_
        refine qt_goto 50 dX12_notesBy_46 (by decide) ?_
        exact qt_sub _ [0, 1, 2, 4] rfl ((s_X12_notesBy_b50 x1 x2 x4 x3 ((1 : Int32) <<< (x4 &&& 31)) h36 E G))
noncomputable def f_X12_notesBy_b5_loop (x1 : Int32) (x2 : Int32) (x3 : Int32) (x4 : Int32) (h : qa_M) : Option (Int32 × qa_M) := qlp (fun sz : Int32 × Int32 × Int32 × Int32 × qa_M => f_X12_notesBy_b5 sz.1 sz.2.1 sz.2.2.1 sz.2.2.2.1 sz.2.2.2.2) (x1, x2, x3, x4, h)
theorem s_X12_notesBy_b5_loop {l : Launch} {g : qa_G} {d : Nat} {rz : Option Value} {hz : qa_M} (x1 : Int32) (x2 : Int32) (x3 : Int32) (x4 : Int32) (h : qa_M) {z : (Int32 × qa_M)} (E : f_X12_notesBy_b5_loop x1 x2 x3 x4 h = some z) (G : (qg_i rz hz) z) : qt_At l g (yX12_notesBy, cX12_notesBy, 5, (some .int)) (d + 1) 0 0 5 [(0, .ref (g.1 + 119)), (1, .int x1), (2, .int x2), (3, .int x3), (4, .int x4)] [] h rz hz :=
  qlp_ind (fun sz : Int32 × Int32 × Int32 × Int32 × qa_M => qt_At l g (yX12_notesBy, cX12_notesBy, 5, (some .int)) (d + 1) 0 0 5 [(0, .ref (g.1 + 119)), (1, .int sz.1), (2, .int sz.2.1), (3, .int sz.2.2.1), (4, .int sz.2.2.2.1)] [] sz.2.2.2.2 rz hz) (fun sz E => s_X12_notesBy_b5 sz.1 sz.2.1 sz.2.2.1 sz.2.2.2.1 sz.2.2.2.2 E G) (fun sz sz2 E ih => s_X12_notesBy_b5 sz.1 sz.2.1 sz.2.2.1 sz.2.2.2.1 sz.2.2.2.2 E ih) (x1, x2, x3, x4, h) E
noncomputable def m_X12_notesBy (x1 : Int32) (x2 : Int32) (h : qa_M) : Option (Int32 × qa_M) :=
  qbd (0 : Int32) (fun v1 : Int32 =>
  qbd (0 : Int32) (fun v3 : Int32 =>
  f_X12_notesBy_b5_loop x1 x2 v1 v3 h))
set_option maxRecDepth 20000 in
theorem c_X12_notesBy {l : Launch} {g : qa_G} {d : Nat} (x1 : Int32) (x2 : Int32) (h : qa_M) {c : Int32} {h1 : qa_M} (E : m_X12_notesBy x1 x2 h = some (c, h1)) : qt_Met l g (yX12_notesBy, cX12_notesBy, 5, (some .int)) (d + 1) 0 [.ref (g.1 + 119), .int x1, .int x2] h (some (.int c)) h1 := by
  refine qt_Met.of (plainFor_of_name (by decide)) (Nat.le_of_ble_eq_true rfl) ?_
  have G : qg_i (some (.int c)) h1 ((c, h1)) := ⟨rfl, rfl⟩
  unfold m_X12_notesBy at E
  refine qt_iconst dX12_notesBy_0 ci_0 ?_
  refine qt_istore_n (fun v1 => [(3, .int v1), (0, .ref (g.1 + 119)), (1, .int x1), (2, .int x2)]) dX12_notesBy_1 rfl (Nat.le_of_ble_eq_true rfl) (fun _ => rfl) E (fun v1 E => ?_)
  refine qt_iconst dX12_notesBy_2 ci_0 ?_
  refine qt_istore (fun v3 => [(4, .int v3), (3, .int v1), (0, .ref (g.1 + 119)), (1, .int x1), (2, .int x2)]) dX12_notesBy_3 (Nat.le_of_ble_eq_true rfl) (fun _ => rfl) E (fun v3 E => ?_)
  exact qt_sub _ [2, 3, 4, 1, 0] rfl ((s_X12_notesBy_b5_loop x1 x2 v1 v3 h E G))
noncomputable def f_X12_trust_b78 (x1 : Int32) (x3 : Int32) (s0 : Int32) (h : qa_M) : Option ((Int32 × Int32 × Int32 × qa_M) ⊕ (Int32 × qa_M)) :=
  qbd s0 (fun v78 : Int32 =>
  qbd (x3 + (1 : Int32)) (fun v79 : Int32 =>
  some (.inl (x1, v78, v79, h))))
set_option maxRecDepth 20000 in
theorem s_X12_trust_b78 {l : Launch} {g : qa_G} {d : Nat} {rz : Option Value} {hz : qa_M} (x1 : Int32) (x3 : Int32) (s0 : Int32) (h : qa_M) {z : ((Int32 × Int32 × Int32 × qa_M) ⊕ (Int32 × qa_M))} (E : f_X12_trust_b78 x1 x3 s0 h = some z) (G : (Sum.elim (fun (sz : Int32 × Int32 × Int32 × qa_M) => qt_At l g (yX12_trust, cX12_trust, 5, (some .int)) (d + 8) 0 0 20 [(0, .ref (g.1 + 119)), (1, .int sz.1), (2, .int sz.2.1), (3, .int sz.2.2.1)] [] sz.2.2.2 rz hz) (qg_i rz hz)) z) : qt_At l g (yX12_trust, cX12_trust, 5, (some .int)) (d + 8) 0 0 78 [(0, .ref (g.1 + 119)), (1, .int x1), (3, .int x3)] [.int s0] h rz hz := by
  unfold f_X12_trust_b78 at E
  refine qt_istore_n (fun v78 => [(2, .int v78), (0, .ref (g.1 + 119)), (1, .int x1), (3, .int x3)]) dX12_trust_78 rfl (Nat.le_of_ble_eq_true rfl) (fun _ => rfl) E (fun v78 E => ?_)
  refine qt_iinc 3 (fun v79 => [(3, .int v79), (2, .int v78), (0, .ref (g.1 + 119)), (1, .int x1)]) dX12_trust_79 rfl ci_1 (Nat.le_of_ble_eq_true rfl) (fun _ => rfl) E (fun v79 E => ?_)
  refine qt_goto 20 dX12_trust_82 (by decide) ?_
  cases E
  exact qt_sub _ [2, 3, 1, 0] rfl (G)
noncomputable def f_X12_trust_b77 (x1 : Int32) (x2 : Int32) (x3 : Int32) (h : qa_M) : Option ((Int32 × Int32 × Int32 × qa_M) ⊕ (Int32 × qa_M)) :=
  f_X12_trust_b78 x1 x3 x2 h
set_option maxRecDepth 20000 in
theorem s_X12_trust_b77 {l : Launch} {g : qa_G} {d : Nat} {rz : Option Value} {hz : qa_M} (x1 : Int32) (x2 : Int32) (x3 : Int32) (h : qa_M) {z : ((Int32 × Int32 × Int32 × qa_M) ⊕ (Int32 × qa_M))} (E : f_X12_trust_b77 x1 x2 x3 h = some z) (G : (Sum.elim (fun (sz : Int32 × Int32 × Int32 × qa_M) => qt_At l g (yX12_trust, cX12_trust, 5, (some .int)) (d + 8) 0 0 20 [(0, .ref (g.1 + 119)), (1, .int sz.1), (2, .int sz.2.1), (3, .int sz.2.2.1)] [] sz.2.2.2 rz hz) (qg_i rz hz)) z) : qt_At l g (yX12_trust, cX12_trust, 5, (some .int)) (d + 8) 0 0 77 [(0, .ref (g.1 + 119)), (1, .int x1), (2, .int x2), (3, .int x3)] [] h rz hz := by
  unfold f_X12_trust_b77 at E
  refine qt_iload_n 2 dX12_trust_77 rfl rfl ?_
  exact qt_sub _ [0, 1, 3] rfl ((s_X12_trust_b78 x1 x3 x2 h E G))
noncomputable def f_X12_trust_b73 (x1 : Int32) (x3 : Int32) (h : qa_M) : Option ((Int32 × Int32 × Int32 × qa_M) ⊕ (Int32 × qa_M)) :=
  f_X12_trust_b78 x1 x3 x3 h
set_option maxRecDepth 20000 in
theorem s_X12_trust_b73 {l : Launch} {g : qa_G} {d : Nat} {rz : Option Value} {hz : qa_M} (x1 : Int32) (x3 : Int32) (h : qa_M) {z : ((Int32 × Int32 × Int32 × qa_M) ⊕ (Int32 × qa_M))} (E : f_X12_trust_b73 x1 x3 h = some z) (G : (Sum.elim (fun (sz : Int32 × Int32 × Int32 × qa_M) => qt_At l g (yX12_trust, cX12_trust, 5, (some .int)) (d + 8) 0 0 20 [(0, .ref (g.1 + 119)), (1, .int sz.1), (2, .int sz.2.1), (3, .int sz.2.2.1)] [] sz.2.2.2 rz hz) (qg_i rz hz)) z) : qt_At l g (yX12_trust, cX12_trust, 5, (some .int)) (d + 8) 0 0 73 [(0, .ref (g.1 + 119)), (1, .int x1), (3, .int x3)] [] h rz hz := by
  unfold f_X12_trust_b73 at E
  refine qt_iload_n 2 dX12_trust_73 rfl rfl ?_
  refine qt_goto 78 dX12_trust_74 (by decide) ?_
  exact qt_sub _ [0, 1, 2] rfl ((s_X12_trust_b78 x1 x3 x3 h E G))
noncomputable def f_X12_trust_b49 (x1 : Int32) (x2 : Int32) (x3 : Int32) (s0 : Int32) (h : qa_M) : Option ((Int32 × Int32 × Int32 × qa_M) ⊕ (Int32 × qa_M)) :=
  qbd s0 (fun v49 : Int32 =>
  if v49 = 0 then (
   f_X12_trust_b77 x1 x2 x3 h)
  else (
   if x2 = (-2 : Int32) then (
    f_X12_trust_b73 x1 x3 h)
   else (
    qbn (m_X12_bits x3 h) (fun (c63 : Int32) (h63 : qa_M) =>
    qbn (m_X12_bits x2 h63) (fun (c67 : Int32) (h67 : qa_M) =>
    if c67 ≤ c63 then (
     f_X12_trust_b77 x1 x2 x3 h67)
    else (
     f_X12_trust_b73 x1 x3 h67))))))
set_option maxRecDepth 20000 in
theorem s_X12_trust_b49 {l : Launch} {g : qa_G} {d : Nat} {rz : Option Value} {hz : qa_M} (x1 : Int32) (x2 : Int32) (x3 : Int32) (s0 : Int32) (h : qa_M) {z : ((Int32 × Int32 × Int32 × qa_M) ⊕ (Int32 × qa_M))} (E : f_X12_trust_b49 x1 x2 x3 s0 h = some z) (G : (Sum.elim (fun (sz : Int32 × Int32 × Int32 × qa_M) => qt_At l g (yX12_trust, cX12_trust, 5, (some .int)) (d + 8) 0 0 20 [(0, .ref (g.1 + 119)), (1, .int sz.1), (2, .int sz.2.1), (3, .int sz.2.2.1)] [] sz.2.2.2 rz hz) (qg_i rz hz)) z) : qt_At l g (yX12_trust, cX12_trust, 5, (some .int)) (d + 8) 0 0 49 [(0, .ref (g.1 + 119)), (1, .int x1), (2, .int x2), (3, .int x3)] [.int s0] h rz hz := by
  unfold f_X12_trust_b49 at E
  refine qt_istore (fun v49 => [(4, .int v49), (0, .ref (g.1 + 119)), (1, .int x1), (2, .int x2), (3, .int x3)]) dX12_trust_49 (Nat.le_of_ble_eq_true rfl) (fun _ => rfl) E (fun v49 E => ?_)
  refine qt_iload 0 dX12_trust_51 rfl ?_
  refine qt_if_eq 77 dX12_trust_53 (by decide) E (fun E => ?_) (fun E => ?_)
  · exact qt_sub _ [1, 2, 3, 4] rfl ((s_X12_trust_b77 x1 x2 x3 h E G))
  · refine qt_iload_n 3 dX12_trust_56 rfl rfl ?_
    refine qt_bipush dX12_trust_57 cb_m2 ?_
    refine qt_icmp_eq 73 dX12_trust_59 (by decide) E (fun E => ?_) (fun E => ?_)
    · exact qt_sub _ [1, 2, 4] rfl ((s_X12_trust_b73 x1 x3 h E G))
    · refine qt_iload_n 4 dX12_trust_62 rfl rfl ?_
      obtain ⟨c63, h63, e63, E⟩ := qbn_el E
      refine qt_callSi (b2 := 0) [.int x3] (c_X12_bits x3 h e63) cv_RX12_479 rfl (Nat.le_of_ble_eq_true rfl) (Nat.le_of_ble_eq_true rfl) dX12_trust_63 ?_
      refine qt_iload_n 3 dX12_trust_66 rfl rfl ?_
      obtain ⟨c67, h67, e67, E⟩ := qbn_el E
      refine qt_callSi (b2 := 0) [.int x2] (c_X12_bits x2 h63 e67) cv_RX12_479 rfl (Nat.le_of_ble_eq_true rfl) (Nat.le_of_ble_eq_true rfl) dX12_trust_67 ?_
      refine qt_icmp_ge 77 dX12_trust_70 (by decide) E (fun E => ?_) (fun E => ?_)
      · exact qt_sub _ [1, 2, 3, 4] rfl ((s_X12_trust_b77 x1 x2 x3 h67 E G))
      · exact qt_sub _ [1, 2, 4] rfl ((s_X12_trust_b73 x1 x3 h67 E G))
noncomputable def f_X12_trust_b20 (x1 : Int32) (x2 : Int32) (x3 : Int32) (h : qa_M) : Option ((Int32 × Int32 × Int32 × qa_M) ⊕ (Int32 × qa_M)) :=
  if (64 : Int32) ≤ x3 then (
   qup (some (x2, h)))
  else (
   qbn (m_X12_notesBy x1 x3 h) (fun (c34 : Int32) (h34 : qa_M) =>
   qck (x1 &&& (c34 ^^^ (-1 : Int32))) 1024 (
   if (h34.1 157 (x1 &&& (c34 ^^^ (-1 : Int32))).toNatClampNeg) ≤ 0 then (
    f_X12_trust_b49 x1 x2 x3 (0 : Int32) h34)
   else (
    f_X12_trust_b49 x1 x2 x3 (1 : Int32) h34))))
set_option maxRecDepth 20000 in
theorem s_X12_trust_b20 {l : Launch} {g : qa_G} {d : Nat} {rz : Option Value} {hz : qa_M} (x1 : Int32) (x2 : Int32) (x3 : Int32) (h : qa_M) {z : ((Int32 × Int32 × Int32 × qa_M) ⊕ (Int32 × qa_M))} (E : f_X12_trust_b20 x1 x2 x3 h = some z) (G : (Sum.elim (fun (sz : Int32 × Int32 × Int32 × qa_M) => qt_At l g (yX12_trust, cX12_trust, 5, (some .int)) (d + 8) 0 0 20 [(0, .ref (g.1 + 119)), (1, .int sz.1), (2, .int sz.2.1), (3, .int sz.2.2.1)] [] sz.2.2.2 rz hz) (qg_i rz hz)) z) : qt_At l g (yX12_trust, cX12_trust, 5, (some .int)) (d + 8) 0 0 20 [(0, .ref (g.1 + 119)), (1, .int x1), (2, .int x2), (3, .int x3)] [] h rz hz := by
  unfold f_X12_trust_b20 at E
  refine qt_iload_n 3 dX12_trust_20 rfl rfl ?_
  refine qt_bipush dX12_trust_21 cb_64 ?_
  refine qt_icmp_ge 85 dX12_trust_23 (by decide) E (fun E => ?_) (fun E => ?_)
  · refine qt_iload_n 2 dX12_trust_85 rfl rfl ?_
    obtain ⟨z0_, E, G⟩ := qup_g E G
    exact qt_ireturn rfl (Nat.le_of_ble_eq_true rfl) dX12_trust_86 E G
  · refine qt_aload_n 0 dX12_trust_26 rfl rfl ?_
    refine qt_getS 157 (wl_119 h) fe_RX12_127 rfl dX12_trust_27 ?_
    refine qt_iload_n 1 dX12_trust_30 rfl rfl ?_
    refine qt_aload_n 0 dX12_trust_31 rfl rfl ?_
    refine qt_iload_n 1 dX12_trust_32 rfl rfl ?_
    refine qt_iload_n 3 dX12_trust_33 rfl rfl ?_
    obtain ⟨c34, h34, e34, E⟩ := qbn_el E
    refine qt_callVi (b2 := 0) [.int x1, .int x3] (c_X12_notesBy x1 x3 h e34) cv_RX12_482 (wl_119 h) rfl rfl rfl (Nat.le_of_ble_eq_true rfl) (Nat.le_of_ble_eq_true rfl) dX12_trust_34 ?_
    refine qt_iconst dX12_trust_37 ci_m1 ?_
    refine qt_ixor dX12_trust_38 ?_
    refine qt_iand dX12_trust_39 ?_
    refine qt_iald (wl_157 h34) dX12_trust_40 E (fun E => ?_)
    refine qt_if_le 48 dX12_trust_41 (by decide) E (fun E => ?_) (fun E => ?_)
    · refine qt_iconst dX12_trust_48 ci_0 ?_
      exact qt_sub _ [0, 1, 2, 3] rfl ((s_X12_trust_b49 x1 x2 x3 (0 : Int32) h34 E G))
    · refine qt_iconst dX12_trust_44 ci_1 ?_
      refine qt_goto 49 dX12_trust_45 (by decide) ?_
      exact qt_sub _ [0, 1, 2, 3] rfl ((s_X12_trust_b49 x1 x2 x3 (1 : Int32) h34 E G))
noncomputable def f_X12_trust_b20_loop (x1 : Int32) (x2 : Int32) (x3 : Int32) (h : qa_M) : Option (Int32 × qa_M) := qlp (fun sz : Int32 × Int32 × Int32 × qa_M => f_X12_trust_b20 sz.1 sz.2.1 sz.2.2.1 sz.2.2.2) (x1, x2, x3, h)
theorem s_X12_trust_b20_loop {l : Launch} {g : qa_G} {d : Nat} {rz : Option Value} {hz : qa_M} (x1 : Int32) (x2 : Int32) (x3 : Int32) (h : qa_M) {z : (Int32 × qa_M)} (E : f_X12_trust_b20_loop x1 x2 x3 h = some z) (G : (qg_i rz hz) z) : qt_At l g (yX12_trust, cX12_trust, 5, (some .int)) (d + 8) 0 0 20 [(0, .ref (g.1 + 119)), (1, .int x1), (2, .int x2), (3, .int x3)] [] h rz hz :=
  qlp_ind (fun sz : Int32 × Int32 × Int32 × qa_M => qt_At l g (yX12_trust, cX12_trust, 5, (some .int)) (d + 8) 0 0 20 [(0, .ref (g.1 + 119)), (1, .int sz.1), (2, .int sz.2.1), (3, .int sz.2.2.1)] [] sz.2.2.2 rz hz) (fun sz E => s_X12_trust_b20 sz.1 sz.2.1 sz.2.2.1 sz.2.2.2 E G) (fun sz sz2 E ih => s_X12_trust_b20 sz.1 sz.2.1 sz.2.2.1 sz.2.2.2 E ih) (x1, x2, x3, h) E
noncomputable def m_X12_trust (x1 : Int32) (h : qa_M) : Option (Int32 × qa_M) :=
  qbn (m_X12_isSet x1 h) (fun (c2 : Int32) (h2 : qa_M) =>
  if c2 = 0 then (
   some ((-1 : Int32), h2))
  else (
   qbv (m_X12_fillsFitting x1 h2) (fun h12 : qa_M =>
   qbd (-2 : Int32) (fun v17 : Int32 =>
   qbd (0 : Int32) (fun v19 : Int32 =>
   f_X12_trust_b20_loop x1 v17 v19 h12)))))
set_option maxRecDepth 20000 in
theorem c_X12_trust {l : Launch} {g : qa_G} {d : Nat} (x1 : Int32) (h : qa_M) {c : Int32} {h1 : qa_M} (E : m_X12_trust x1 h = some (c, h1)) : qt_Met l g (yX12_trust, cX12_trust, 5, (some .int)) (d + 8) 0 [.ref (g.1 + 119), .int x1] h (some (.int c)) h1 := by
  refine qt_Met.of (plainFor_of_name (by decide)) (Nat.le_of_ble_eq_true rfl) ?_
  have G : qg_i (some (.int c)) h1 ((c, h1)) := ⟨rfl, rfl⟩
  unfold m_X12_trust at E
  refine qt_aload_n 0 dX12_trust_0 rfl rfl ?_
  refine qt_iload_n 1 dX12_trust_1 rfl rfl ?_
  obtain ⟨c2, h2, e2, E⟩ := qbn_el E
  refine qt_callVi (b2 := 0) [.int x1] (c_X12_isSet x1 h e2) cv_RX12_452 (wl_119 h) rfl rfl rfl (Nat.le_of_ble_eq_true rfl) (Nat.le_of_ble_eq_true rfl) dX12_trust_2 ?_
  refine qt_if_ne 10 dX12_trust_5 (by decide) E (fun E => ?_) (fun E => ?_)
  · refine qt_aload_n 0 dX12_trust_10 rfl rfl ?_
    refine qt_iload_n 1 dX12_trust_11 rfl rfl ?_
    obtain ⟨h12, e12, E⟩ := qbv_el E
    refine qt_callVv (b2 := 0) [.int x1] (c_X12_fillsFitting x1 h2 e12) cv_RX12_476 (wl_119 h2) rfl rfl rfl (Nat.le_of_ble_eq_true rfl) (Nat.le_of_ble_eq_true rfl) dX12_trust_12 ?_
    refine qt_bipush dX12_trust_15 cb_m2 ?_
    refine qt_istore_n (fun v17 => [(2, .int v17), (0, .ref (g.1 + 119)), (1, .int x1)]) dX12_trust_17 rfl (Nat.le_of_ble_eq_true rfl) (fun _ => rfl) E (fun v17 E => ?_)
    refine qt_iconst dX12_trust_18 ci_0 ?_
    refine qt_istore_n (fun v19 => [(3, .int v19), (2, .int v17), (0, .ref (g.1 + 119)), (1, .int x1)]) dX12_trust_19 rfl (Nat.le_of_ble_eq_true rfl) (fun _ => rfl) E (fun v19 E => ?_)
    exact qt_sub _ [2, 3, 1, 0] rfl ((s_X12_trust_b20_loop x1 v17 v19 h12 E G))
  · refine qt_iconst dX12_trust_8 ci_m1 ?_
    exact qt_ireturn rfl (Nat.le_of_ble_eq_true rfl) dX12_trust_9 E G
noncomputable def f_X12_noneSeen_b71 (x1 : Int64) (x4 : Int32) (s0 : Int32) (s1 : Int32) (h : qa_M) : Option ((Int64 × Int32 × Int32 × qa_M) ⊕ (Int32 × qa_M)) :=
  qbd (s0 &&& s1) (fun v72 : Int32 =>
  qbd (x4 + (1 : Int32)) (fun v73 : Int32 =>
  some (.inl (x1, v72, v73, h))))
set_option maxRecDepth 20000 in
theorem s_X12_noneSeen_b71 {l : Launch} {g : qa_G} {d : Nat} {rz : Option Value} {hz : qa_M} (x1 : Int64) (x4 : Int32) (s0 : Int32) (s1 : Int32) (h : qa_M) {z : ((Int64 × Int32 × Int32 × qa_M) ⊕ (Int32 × qa_M))} (E : f_X12_noneSeen_b71 x1 x4 s0 s1 h = some z) (G : (Sum.elim (fun (sz : Int64 × Int32 × Int32 × qa_M) => qt_At l g (yX12_noneSeen, cX12_noneSeen, 5, (some .int)) (d + 1) 0 0 32 [(0, .ref (g.1 + 119)), (1, .long sz.1), (3, .int sz.2.1), (4, .int sz.2.2.1)] [] sz.2.2.2 rz hz) (qg_i rz hz)) z) : qt_At l g (yX12_noneSeen, cX12_noneSeen, 5, (some .int)) (d + 1) 0 0 71 [(0, .ref (g.1 + 119)), (1, .long x1), (4, .int x4)] [.int s1, .int s0] h rz hz := by
  unfold f_X12_noneSeen_b71 at E
  refine qt_iand dX12_noneSeen_71 ?_
  refine qt_istore_n (fun v72 => [(3, .int v72), (0, .ref (g.1 + 119)), (1, .long x1), (4, .int x4)]) dX12_noneSeen_72 rfl (Nat.le_of_ble_eq_true rfl) (fun _ => rfl) E (fun v72 E => ?_)
  refine qt_iinc 3 (fun v73 => [(4, .int v73), (3, .int v72), (0, .ref (g.1 + 119)), (1, .long x1)]) dX12_noneSeen_73 rfl ci_1 (Nat.le_of_ble_eq_true rfl) (fun _ => rfl) E (fun v73 E => ?_)
  refine qt_goto 32 dX12_noneSeen_76 (by decide) ?_
  cases E
  exact qt_sub _ [2, 3, 1, 0] rfl (G)
noncomputable def f_X12_noneSeen_b32 (x1 : Int64) (x3 : Int32) (x4 : Int32) (h : qa_M) : Option ((Int64 × Int32 × Int32 × qa_M) ⊕ (Int32 × qa_M)) :=
  if (h.1 119 48) ≤ x4 then (
   qup (some (x3, h)))
  else (
   qck x4 4 (
   qbn (m_X12_has x1 (h.1 151 x4.toNatClampNeg) h) (fun (c50 : Int32) (h50 : qa_M) =>
   if c50 = 0 then (
    f_X12_noneSeen_b71 x1 x4 x3 (-1 : Int32) h50)
   else (
    qck x4 4 (
    f_X12_noneSeen_b71 x1 x4 x3 (((1 : Int32) <<< ((h50.1 152 x4.toNatClampNeg) &&& 31)) ^^^ (-1 : Int32)) h50)))))
set_option maxRecDepth 20000 in
theorem s_X12_noneSeen_b32 {l : Launch} {g : qa_G} {d : Nat} {rz : Option Value} {hz : qa_M} (x1 : Int64) (x3 : Int32) (x4 : Int32) (h : qa_M) {z : ((Int64 × Int32 × Int32 × qa_M) ⊕ (Int32 × qa_M))} (E : f_X12_noneSeen_b32 x1 x3 x4 h = some z) (G : (Sum.elim (fun (sz : Int64 × Int32 × Int32 × qa_M) => qt_At l g (yX12_noneSeen, cX12_noneSeen, 5, (some .int)) (d + 1) 0 0 32 [(0, .ref (g.1 + 119)), (1, .long sz.1), (3, .int sz.2.1), (4, .int sz.2.2.1)] [] sz.2.2.2 rz hz) (qg_i rz hz)) z) : qt_At l g (yX12_noneSeen, cX12_noneSeen, 5, (some .int)) (d + 1) 0 0 32 [(0, .ref (g.1 + 119)), (1, .long x1), (3, .int x3), (4, .int x4)] [] h rz hz := by
  unfold f_X12_noneSeen_b32 at E
  refine qt_iload 3 dX12_noneSeen_32 rfl ?_
  refine qt_aload_n 0 dX12_noneSeen_34 rfl rfl ?_
  refine qt_getI (wl_119 h) fe_RX12_424 rfl dX12_noneSeen_35 ?_
  refine qt_icmp_ge 79 dX12_noneSeen_38 (by decide) E (fun E => ?_) (fun E => ?_)
  · refine qt_iload_n 2 dX12_noneSeen_79 rfl rfl ?_
    obtain ⟨z0_, E, G⟩ := qup_g E G
    exact qt_ireturn rfl (Nat.le_of_ble_eq_true rfl) dX12_noneSeen_80 E G
  · refine qt_iload_n 2 dX12_noneSeen_41 rfl rfl ?_
    refine qt_lload_n 1 dX12_noneSeen_42 rfl rfl ?_
    refine qt_aload_n 0 dX12_noneSeen_43 rfl rfl ?_
    refine qt_getS 151 (wl_119 h) fe_RX12_109 rfl dX12_noneSeen_44 ?_
    refine qt_iload 3 dX12_noneSeen_47 rfl ?_
    refine qt_iald (wl_151 h) dX12_noneSeen_49 E (fun E => ?_)
    obtain ⟨c50, h50, e50, E⟩ := qbn_el E
    refine qt_callSi (b2 := 0) [.long x1, .int (h.1 151 x4.toNatClampNeg)] (c_X12_has x1 (h.1 151 x4.toNatClampNeg) h e50) cv_RX12_211 rfl (Nat.le_of_ble_eq_true rfl) (Nat.le_of_ble_eq_true rfl) dX12_noneSeen_50 ?_
    refine qt_if_eq 70 dX12_noneSeen_53 (by decide) E (fun E => ?_) (fun E => ?_)
    · refine qt_iconst dX12_noneSeen_70 ci_m1 ?_
      exact qt_sub _ [0, 1, 3] rfl ((s_X12_noneSeen_b71 x1 x4 x3 (-1 : Int32) h50 E G))
    · refine qt_iconst dX12_noneSeen_56 ci_1 ?_
      refine qt_aload_n 0 dX12_noneSeen_57 rfl rfl ?_
      refine qt_getS 152 (wl_119 h50) fe_RX12_112 rfl dX12_noneSeen_58 ?_
      refine qt_iload 3 dX12_noneSeen_61 rfl ?_
      refine qt_iald (wl_152 h50) dX12_noneSeen_63 E (fun E => ?_)
      refine qt_ishl dX12_noneSeen_64 ?_
      refine qt_iconst dX12_noneSeen_65 ci_m1 ?_
      refine qt_ixor dX12_noneSeen_66 ?_
      refine qt_goto 71 dX12_noneSeen_67 (by decide) ?_
      exact qt_sub _ [0, 1, 3] rfl ((s_X12_noneSeen_b71 x1 x4 x3 (((1 : Int32) <<< ((h50.1 152 x4.toNatClampNeg) &&& 31)) ^^^ (-1 : Int32)) h50 E G))
noncomputable def f_X12_noneSeen_b32_loop (x1 : Int64) (x3 : Int32) (x4 : Int32) (h : qa_M) : Option (Int32 × qa_M) := qlp (fun sz : Int64 × Int32 × Int32 × qa_M => f_X12_noneSeen_b32 sz.1 sz.2.1 sz.2.2.1 sz.2.2.2) (x1, x3, x4, h)
theorem s_X12_noneSeen_b32_loop {l : Launch} {g : qa_G} {d : Nat} {rz : Option Value} {hz : qa_M} (x1 : Int64) (x3 : Int32) (x4 : Int32) (h : qa_M) {z : (Int32 × qa_M)} (E : f_X12_noneSeen_b32_loop x1 x3 x4 h = some z) (G : (qg_i rz hz) z) : qt_At l g (yX12_noneSeen, cX12_noneSeen, 5, (some .int)) (d + 1) 0 0 32 [(0, .ref (g.1 + 119)), (1, .long x1), (3, .int x3), (4, .int x4)] [] h rz hz :=
  qlp_ind (fun sz : Int64 × Int32 × Int32 × qa_M => qt_At l g (yX12_noneSeen, cX12_noneSeen, 5, (some .int)) (d + 1) 0 0 32 [(0, .ref (g.1 + 119)), (1, .long sz.1), (3, .int sz.2.1), (4, .int sz.2.2.1)] [] sz.2.2.2 rz hz) (fun sz E => s_X12_noneSeen_b32 sz.1 sz.2.1 sz.2.2.1 sz.2.2.2 E G) (fun sz sz2 E ih => s_X12_noneSeen_b32 sz.1 sz.2.1 sz.2.2.1 sz.2.2.2 E ih) (x1, x3, x4, h) E
noncomputable def f_X12_noneSeen_b29 (x1 : Int64) (x3 : Int32) (h : qa_M) : Option (Int32 × qa_M) :=
  qbd (0 : Int32) (fun v30 : Int32 =>
  f_X12_noneSeen_b32_loop x1 x3 v30 h)
set_option maxRecDepth 20000 in
theorem s_X12_noneSeen_b29 {l : Launch} {g : qa_G} {d : Nat} {rz : Option Value} {hz : qa_M} (x1 : Int64) (x3 : Int32) (h : qa_M) {z : (Int32 × qa_M)} (E : f_X12_noneSeen_b29 x1 x3 h = some z) (G : (qg_i rz hz) z) : qt_At l g (yX12_noneSeen, cX12_noneSeen, 5, (some .int)) (d + 1) 0 0 29 [(0, .ref (g.1 + 119)), (1, .long x1), (3, .int x3)] [] h rz hz := by
  unfold f_X12_noneSeen_b29 at E
  refine qt_iconst dX12_noneSeen_29 ci_0 ?_
  refine qt_istore (fun v30 => [(4, .int v30), (0, .ref (g.1 + 119)), (1, .long x1), (3, .int x3)]) dX12_noneSeen_30 (Nat.le_of_ble_eq_true rfl) (fun _ => rfl) E (fun v30 E => ?_)
  exact qt_sub _ [1, 2, 3, 0] rfl ((s_X12_noneSeen_b32_loop x1 x3 v30 h E G))
noncomputable def f_X12_noneSeen_b5 (x1 : Int64) (x3 : Int32) (x4 : Int32) (h : qa_M) : Option ((Int64 × Int32 × Int32 × qa_M) ⊕ (Int32 × qa_M)) :=
  qck (4 : Int32) 8 (
  if (h.1 120 (4 : Int32).toNatClampNeg) ≤ x4 then (
   qup (f_X12_noneSeen_b29 x1 x3 h))
  else (
   qbd (x3 ||| ((1 : Int32) <<< (x4 &&& 31))) (fun v22 : Int32 =>
   qbd (x4 + (1 : Int32)) (fun v23 : Int32 =>
   some (.inl (x1, v22, v23, h))))))
set_option maxRecDepth 20000 in
theorem s_X12_noneSeen_b5 {l : Launch} {g : qa_G} {d : Nat} {rz : Option Value} {hz : qa_M} (x1 : Int64) (x3 : Int32) (x4 : Int32) (h : qa_M) {z : ((Int64 × Int32 × Int32 × qa_M) ⊕ (Int32 × qa_M))} (E : f_X12_noneSeen_b5 x1 x3 x4 h = some z) (G : (Sum.elim (fun (sz : Int64 × Int32 × Int32 × qa_M) => qt_At l g (yX12_noneSeen, cX12_noneSeen, 5, (some .int)) (d + 1) 0 0 5 [(0, .ref (g.1 + 119)), (1, .long sz.1), (3, .int sz.2.1), (4, .int sz.2.2.1)] [] sz.2.2.2 rz hz) (qg_i rz hz)) z) : qt_At l g (yX12_noneSeen, cX12_noneSeen, 5, (some .int)) (d + 1) 0 0 5 [(0, .ref (g.1 + 119)), (1, .long x1), (3, .int x3), (4, .int x4)] [] h rz hz := by
  unfold f_X12_noneSeen_b5 at E
  refine qt_iload 3 dX12_noneSeen_5 rfl ?_
  refine qt_aload_n 0 dX12_noneSeen_7 rfl rfl ?_
  refine qt_getS 120 (wl_119 h) fe_RX12_7 rfl dX12_noneSeen_8 ?_
  refine qt_iconst dX12_noneSeen_11 ci_4 ?_
  refine qt_iald (wl_120 h) dX12_noneSeen_12 E (fun E => ?_)
  refine qt_icmp_ge 29 dX12_noneSeen_13 (by decide) E (fun E => ?_) (fun E => ?_)
  · obtain ⟨z0_, E, G⟩ := qup_g E G
    exact qt_sub _ [0, 1, 2] rfl ((s_X12_noneSeen_b29 x1 x3 h E G))
  · refine qt_iload_n 2 dX12_noneSeen_16 rfl rfl ?_
    refine qt_iconst dX12_noneSeen_17 ci_1 ?_
    refine qt_iload 3 dX12_noneSeen_18 rfl ?_
    refine qt_ishl dX12_noneSeen_20 ?_
    refine qt_ior dX12_noneSeen_21 ?_
    refine qt_istore_n (fun v22 => [(3, .int v22), (0, .ref (g.1 + 119)), (1, .long x1), (4, .int x4)]) dX12_noneSeen_22 rfl (Nat.le_of_ble_eq_true rfl) (fun _ => rfl) E (fun v22 E => ?_)
    refine qt_iinc 3 (fun v23 => [(4, .int v23), (3, .int v22), (0, .ref (g.1 + 119)), (1, .long x1)]) dX12_noneSeen_23 rfl ci_1 (Nat.le_of_ble_eq_true rfl) (fun _ => rfl) E (fun v23 E => ?_)
    refine qt_goto 5 dX12_noneSeen_26 (by decide) ?_
    cases E
    exact qt_sub _ [2, 3, 1, 0] rfl (G)
noncomputable def f_X12_noneSeen_b5_loop (x1 : Int64) (x3 : Int32) (x4 : Int32) (h : qa_M) : Option (Int32 × qa_M) := qlp (fun sz : Int64 × Int32 × Int32 × qa_M => f_X12_noneSeen_b5 sz.1 sz.2.1 sz.2.2.1 sz.2.2.2) (x1, x3, x4, h)
theorem s_X12_noneSeen_b5_loop {l : Launch} {g : qa_G} {d : Nat} {rz : Option Value} {hz : qa_M} (x1 : Int64) (x3 : Int32) (x4 : Int32) (h : qa_M) {z : (Int32 × qa_M)} (E : f_X12_noneSeen_b5_loop x1 x3 x4 h = some z) (G : (qg_i rz hz) z) : qt_At l g (yX12_noneSeen, cX12_noneSeen, 5, (some .int)) (d + 1) 0 0 5 [(0, .ref (g.1 + 119)), (1, .long x1), (3, .int x3), (4, .int x4)] [] h rz hz :=
  qlp_ind (fun sz : Int64 × Int32 × Int32 × qa_M => qt_At l g (yX12_noneSeen, cX12_noneSeen, 5, (some .int)) (d + 1) 0 0 5 [(0, .ref (g.1 + 119)), (1, .long sz.1), (3, .int sz.2.1), (4, .int sz.2.2.1)] [] sz.2.2.2 rz hz) (fun sz E => s_X12_noneSeen_b5 sz.1 sz.2.1 sz.2.2.1 sz.2.2.2 E G) (fun sz sz2 E ih => s_X12_noneSeen_b5 sz.1 sz.2.1 sz.2.2.1 sz.2.2.2 E ih) (x1, x3, x4, h) E
noncomputable def m_X12_noneSeen (x1 : Int64) (h : qa_M) : Option (Int32 × qa_M) :=
  qbd (0 : Int32) (fun v1 : Int32 =>
  qbd (0 : Int32) (fun v3 : Int32 =>
  f_X12_noneSeen_b5_loop x1 v1 v3 h))
set_option maxRecDepth 20000 in
theorem c_X12_noneSeen {l : Launch} {g : qa_G} {d : Nat} (x1 : Int64) (h : qa_M) {c : Int32} {h1 : qa_M} (E : m_X12_noneSeen x1 h = some (c, h1)) : qt_Met l g (yX12_noneSeen, cX12_noneSeen, 5, (some .int)) (d + 1) 0 [.ref (g.1 + 119), .long x1] h (some (.int c)) h1 := by
  refine qt_Met.of (plainFor_of_name (by decide)) (Nat.le_of_ble_eq_true rfl) ?_
  have G : qg_i (some (.int c)) h1 ((c, h1)) := ⟨rfl, rfl⟩
  unfold m_X12_noneSeen at E
  refine qt_iconst dX12_noneSeen_0 ci_0 ?_
  refine qt_istore_n (fun v1 => [(3, .int v1), (0, .ref (g.1 + 119)), (1, .long x1)]) dX12_noneSeen_1 rfl (Nat.le_of_ble_eq_true rfl) (fun _ => rfl) E (fun v1 E => ?_)
  refine qt_iconst dX12_noneSeen_2 ci_0 ?_
  refine qt_istore (fun v3 => [(4, .int v3), (3, .int v1), (0, .ref (g.1 + 119)), (1, .long x1)]) dX12_noneSeen_3 (Nat.le_of_ble_eq_true rfl) (fun _ => rfl) E (fun v3 E => ?_)
  exact qt_sub _ [2, 3, 1, 0] rfl ((s_X12_noneSeen_b5_loop x1 v1 v3 h E G))
noncomputable def m_X12_cell (x0 : Int32) (x1 : Int32) (x2 : Int32) (x3 : Int32) (h : qa_M) : Option (Int32 × qa_M) :=
  some (((((((x0 * (16 : Int32)) + x1) * (8 : Int32)) + x2) * (16 : Int32)) + x3), h)
set_option maxRecDepth 20000 in
theorem c_X12_cell {l : Launch} {g : qa_G} {d : Nat} (x0 : Int32) (x1 : Int32) (x2 : Int32) (x3 : Int32) (h : qa_M) {c : Int32} {h1 : qa_M} (E : m_X12_cell x0 x1 x2 x3 h = some (c, h1)) : qt_Met l g (yX12_cell, cX12_cell, 4, (some .int)) d 0 [.int x0, .int x1, .int x2, .int x3] h (some (.int c)) h1 := by
  refine qt_Met.of (plainFor_of_name (by decide)) (Nat.le_of_ble_eq_true rfl) ?_
  have G : qg_i (some (.int c)) h1 ((c, h1)) := ⟨rfl, rfl⟩
  unfold m_X12_cell at E
  refine qt_iload_n 0 dX12_cell_0 rfl rfl ?_
  refine qt_bipush dX12_cell_1 cb_16 ?_
  refine qt_imul dX12_cell_3 ?_
  refine qt_iload_n 1 dX12_cell_4 rfl rfl ?_
  refine qt_iadd dX12_cell_5 ?_
  refine qt_bipush dX12_cell_6 cb_8 ?_
  refine qt_imul dX12_cell_8 ?_
  refine qt_iload_n 2 dX12_cell_9 rfl rfl ?_
  refine qt_iadd dX12_cell_10 ?_
  refine qt_bipush dX12_cell_11 cb_16 ?_
  refine qt_imul dX12_cell_13 ?_
  refine qt_iload_n 3 dX12_cell_14 rfl rfl ?_
  refine qt_iadd dX12_cell_15 ?_
  exact qt_ireturn rfl (Nat.le_of_ble_eq_true rfl) dX12_cell_16 E G
noncomputable def f_X12_fillsBoth_b172 (x1 : Int32) (h : qa_M) : Option ((Int32 × qa_M) ⊕ qa_M) :=
  some (.inl (x1, h))
set_option maxRecDepth 20000 in
theorem s_X12_fillsBoth_b172 {l : Launch} {g : qa_G} {d : Nat} {rz : Option Value} {hz : qa_M} (x1 : Int32) (h : qa_M) {z : ((Int32 × qa_M) ⊕ qa_M)} (E : f_X12_fillsBoth_b172 x1 h = some z) (G : (Sum.elim (fun (sz : Int32 × qa_M) => qt_At l g (yX12_fillsBoth, cX12_fillsBoth, 4, none) (d + 7) 0 0 68 [(0, .ref (g.1 + 119)), (1, .int sz.1)] [] sz.2 rz hz) (qg_v rz hz)) z) : qt_At l g (yX12_fillsBoth, cX12_fillsBoth, 4, none) (d + 7) 0 0 172 [(0, .ref (g.1 + 119)), (1, .int x1)] [] h rz hz := by
  unfold f_X12_fillsBoth_b172 at E
  refine qt_goto 68 dX12_fillsBoth_172 (by decide) ?_
  cases E
  exact qt_sub _ [0, 1] rfl (G)
noncomputable def f_X12_fillsBoth_b166 (x1 : Int32) (x2 : Int32) (h : qa_M) : Option ((Int32 × Int32 × qa_M) ⊕ ((Int32 × qa_M) ⊕ qa_M)) :=
  qbd (x2 + (1 : Int32)) (fun v166 : Int32 =>
  some (.inl (x1, v166, h)))
set_option maxRecDepth 20000 in
theorem s_X12_fillsBoth_b166 {l : Launch} {g : qa_G} {d : Nat} {rz : Option Value} {hz : qa_M} (x1 : Int32) (x2 : Int32) (h : qa_M) {z : ((Int32 × Int32 × qa_M) ⊕ ((Int32 × qa_M) ⊕ qa_M))} (E : f_X12_fillsBoth_b166 x1 x2 h = some z) (G : (Sum.elim (fun (sz : Int32 × Int32 × qa_M) => qt_At l g (yX12_fillsBoth, cX12_fillsBoth, 4, none) (d + 7) 0 0 112 [(0, .ref (g.1 + 119)), (1, .int sz.1), (2, .int sz.2.1)] [] sz.2.2 rz hz) (Sum.elim (fun (sz : Int32 × qa_M) => qt_At l g (yX12_fillsBoth, cX12_fillsBoth, 4, none) (d + 7) 0 0 68 [(0, .ref (g.1 + 119)), (1, .int sz.1)] [] sz.2 rz hz) (qg_v rz hz))) z) : qt_At l g (yX12_fillsBoth, cX12_fillsBoth, 4, none) (d + 7) 0 0 166 [(0, .ref (g.1 + 119)), (1, .int x1), (2, .int x2)] [] h rz hz := by
  unfold f_X12_fillsBoth_b166 at E
  refine qt_iinc 2 (fun v166 => [(2, .int v166), (0, .ref (g.1 + 119)), (1, .int x1)]) dX12_fillsBoth_166 rfl ci_1 (Nat.le_of_ble_eq_true rfl) (fun _ => rfl) E (fun v166 E => ?_)
  refine qt_goto 112 dX12_fillsBoth_169 (by decide) ?_
  cases E
  exact qt_sub _ [1, 2, 0] rfl (G)
noncomputable def f_X12_fillsBoth_b124 (x1 : Int32) (x2 : Int32) (x3 : Int32) (h : qa_M) : Option ((Int32 × Int32 × Int32 × qa_M) ⊕ ((Int32 × Int32 × qa_M) ⊕ ((Int32 × qa_M) ⊕ qa_M))) :=
  qck (2 : Int32) 8 (
  if (h.1 120 (2 : Int32).toNatClampNeg) ≤ x3 then (
   qup (f_X12_fillsBoth_b166 x1 x2 h))
  else (
   qck x2 8 (
   qck x3 8 (
   qbn (m_X12_cell x2 (h.1 158 x2.toNatClampNeg) x3 (h.1 158 x3.toNatClampNeg) h) (fun (c152 : Int32) (h152 : qa_M) =>
   qck c152 16384 (
   qck c152 16384 (
   qbd (qw_I h152 159 c152.toNatClampNeg ((h152.1 159 c152.toNatClampNeg) + (1 : Int32))) (fun h159 : qa_M =>
   qbd (x3 + (1 : Int32)) (fun v160 : Int32 =>
   some (.inl (x1, x2, v160, h159)))))))))))
set_option maxRecDepth 20000 in
theorem s_X12_fillsBoth_b124 {l : Launch} {g : qa_G} {d : Nat} {rz : Option Value} {hz : qa_M} (x1 : Int32) (x2 : Int32) (x3 : Int32) (h : qa_M) {z : ((Int32 × Int32 × Int32 × qa_M) ⊕ ((Int32 × Int32 × qa_M) ⊕ ((Int32 × qa_M) ⊕ qa_M)))} (E : f_X12_fillsBoth_b124 x1 x2 x3 h = some z) (G : (Sum.elim (fun (sz : Int32 × Int32 × Int32 × qa_M) => qt_At l g (yX12_fillsBoth, cX12_fillsBoth, 4, none) (d + 7) 0 0 124 [(0, .ref (g.1 + 119)), (1, .int sz.1), (2, .int sz.2.1), (3, .int sz.2.2.1)] [] sz.2.2.2 rz hz) (Sum.elim (fun (sz : Int32 × Int32 × qa_M) => qt_At l g (yX12_fillsBoth, cX12_fillsBoth, 4, none) (d + 7) 0 0 112 [(0, .ref (g.1 + 119)), (1, .int sz.1), (2, .int sz.2.1)] [] sz.2.2 rz hz) (Sum.elim (fun (sz : Int32 × qa_M) => qt_At l g (yX12_fillsBoth, cX12_fillsBoth, 4, none) (d + 7) 0 0 68 [(0, .ref (g.1 + 119)), (1, .int sz.1)] [] sz.2 rz hz) (qg_v rz hz)))) z) : qt_At l g (yX12_fillsBoth, cX12_fillsBoth, 4, none) (d + 7) 0 0 124 [(0, .ref (g.1 + 119)), (1, .int x1), (2, .int x2), (3, .int x3)] [] h rz hz := by
  unfold f_X12_fillsBoth_b124 at E
  refine qt_iload_n 3 dX12_fillsBoth_124 rfl rfl ?_
  refine qt_aload_n 0 dX12_fillsBoth_125 rfl rfl ?_
  refine qt_getS 120 (wl_119 h) fe_RX12_7 rfl dX12_fillsBoth_126 ?_
  refine qt_iconst dX12_fillsBoth_129 ci_2 ?_
  refine qt_iald (wl_120 h) dX12_fillsBoth_130 E (fun E => ?_)
  refine qt_icmp_ge 166 dX12_fillsBoth_131 (by decide) E (fun E => ?_) (fun E => ?_)
  · obtain ⟨z0_, E, G⟩ := qup_g E G
    exact qt_sub _ [0, 1, 2] rfl ((s_X12_fillsBoth_b166 x1 x2 h E G))
  · refine qt_aload_n 0 dX12_fillsBoth_134 rfl rfl ?_
    refine qt_getS 159 (wl_119 h) fe_RX12_133 rfl dX12_fillsBoth_135 ?_
    refine qt_iload_n 2 dX12_fillsBoth_138 rfl rfl ?_
    refine qt_aload_n 0 dX12_fillsBoth_139 rfl rfl ?_
    refine qt_getS 158 (wl_119 h) fe_RX12_130 rfl dX12_fillsBoth_140 ?_
    refine qt_iload_n 2 dX12_fillsBoth_143 rfl rfl ?_
    refine qt_iald (wl_158 h) dX12_fillsBoth_144 E (fun E => ?_)
    refine qt_iload_n 3 dX12_fillsBoth_145 rfl rfl ?_
    refine qt_aload_n 0 dX12_fillsBoth_146 rfl rfl ?_
    refine qt_getS 158 (wl_119 h) fe_RX12_130 rfl dX12_fillsBoth_147 ?_
    refine qt_iload_n 3 dX12_fillsBoth_150 rfl rfl ?_
    refine qt_iald (wl_158 h) dX12_fillsBoth_151 E (fun E => ?_)
    obtain ⟨c152, h152, e152, E⟩ := qbn_el E
    refine qt_callSi (b2 := 0) [.int x2, .int (h.1 158 x2.toNatClampNeg), .int x3, .int (h.1 158 x3.toNatClampNeg)] (c_X12_cell x2 (h.1 158 x2.toNatClampNeg) x3 (h.1 158 x3.toNatClampNeg) h e152) cv_RX12_489 rfl (Nat.le_of_ble_eq_true rfl) (Nat.le_of_ble_eq_true rfl) dX12_fillsBoth_152 ?_
    refine qt_dup2_11 dX12_fillsBoth_155 rfl rfl ?_
    refine qt_iald (wl_159 h152) dX12_fillsBoth_156 E (fun E => ?_)
    refine qt_iconst dX12_fillsBoth_157 ci_1 ?_
    refine qt_iadd dX12_fillsBoth_158 ?_
    refine qt_iast (wl_159 h152) dX12_fillsBoth_159 E (fun h159 E => ?_)
    refine qt_iinc 3 (fun v160 => [(3, .int v160), (0, .ref (g.1 + 119)), (1, .int x1), (2, .int x2)]) dX12_fillsBoth_160 rfl ci_1 (Nat.le_of_ble_eq_true rfl) (fun _ => rfl) E (fun v160 E => ?_)
    refine qt_goto 124 dX12_fillsBoth_163 (by decide) ?_
    cases E
    exact qt_sub _ [1, 2, 3, 0] rfl (G)
noncomputable def f_X12_fillsBoth_b124_loop (x1 : Int32) (x2 : Int32) (x3 : Int32) (h : qa_M) : Option ((Int32 × Int32 × qa_M) ⊕ ((Int32 × qa_M) ⊕ qa_M)) := qlp (fun sz : Int32 × Int32 × Int32 × qa_M => f_X12_fillsBoth_b124 sz.1 sz.2.1 sz.2.2.1 sz.2.2.2) (x1, x2, x3, h)
theorem s_X12_fillsBoth_b124_loop {l : Launch} {g : qa_G} {d : Nat} {rz : Option Value} {hz : qa_M} (x1 : Int32) (x2 : Int32) (x3 : Int32) (h : qa_M) {z : ((Int32 × Int32 × qa_M) ⊕ ((Int32 × qa_M) ⊕ qa_M))} (E : f_X12_fillsBoth_b124_loop x1 x2 x3 h = some z) (G : (Sum.elim (fun (sz : Int32 × Int32 × qa_M) => qt_At l g (yX12_fillsBoth, cX12_fillsBoth, 4, none) (d + 7) 0 0 112 [(0, .ref (g.1 + 119)), (1, .int sz.1), (2, .int sz.2.1)] [] sz.2.2 rz hz) (Sum.elim (fun (sz : Int32 × qa_M) => qt_At l g (yX12_fillsBoth, cX12_fillsBoth, 4, none) (d + 7) 0 0 68 [(0, .ref (g.1 + 119)), (1, .int sz.1)] [] sz.2 rz hz) (qg_v rz hz))) z) : qt_At l g (yX12_fillsBoth, cX12_fillsBoth, 4, none) (d + 7) 0 0 124 [(0, .ref (g.1 + 119)), (1, .int x1), (2, .int x2), (3, .int x3)] [] h rz hz :=
  qlp_ind (fun sz : Int32 × Int32 × Int32 × qa_M => qt_At l g (yX12_fillsBoth, cX12_fillsBoth, 4, none) (d + 7) 0 0 124 [(0, .ref (g.1 + 119)), (1, .int sz.1), (2, .int sz.2.1), (3, .int sz.2.2.1)] [] sz.2.2.2 rz hz) (fun sz E => s_X12_fillsBoth_b124 sz.1 sz.2.1 sz.2.2.1 sz.2.2.2 E G) (fun sz sz2 E ih => s_X12_fillsBoth_b124 sz.1 sz.2.1 sz.2.2.1 sz.2.2.2 E ih) (x1, x2, x3, h) E
noncomputable def f_X12_fillsBoth_b112 (x1 : Int32) (x2 : Int32) (h : qa_M) : Option ((Int32 × Int32 × qa_M) ⊕ ((Int32 × qa_M) ⊕ qa_M)) :=
  qck (2 : Int32) 8 (
  if (h.1 120 (2 : Int32).toNatClampNeg) ≤ x2 then (
   qup (f_X12_fillsBoth_b172 x1 h))
  else (
   qbd (0 : Int32) (fun v123 : Int32 =>
   f_X12_fillsBoth_b124_loop x1 x2 v123 h)))
set_option maxRecDepth 20000 in
theorem s_X12_fillsBoth_b112 {l : Launch} {g : qa_G} {d : Nat} {rz : Option Value} {hz : qa_M} (x1 : Int32) (x2 : Int32) (h : qa_M) {z : ((Int32 × Int32 × qa_M) ⊕ ((Int32 × qa_M) ⊕ qa_M))} (E : f_X12_fillsBoth_b112 x1 x2 h = some z) (G : (Sum.elim (fun (sz : Int32 × Int32 × qa_M) => qt_At l g (yX12_fillsBoth, cX12_fillsBoth, 4, none) (d + 7) 0 0 112 [(0, .ref (g.1 + 119)), (1, .int sz.1), (2, .int sz.2.1)] [] sz.2.2 rz hz) (Sum.elim (fun (sz : Int32 × qa_M) => qt_At l g (yX12_fillsBoth, cX12_fillsBoth, 4, none) (d + 7) 0 0 68 [(0, .ref (g.1 + 119)), (1, .int sz.1)] [] sz.2 rz hz) (qg_v rz hz))) z) : qt_At l g (yX12_fillsBoth, cX12_fillsBoth, 4, none) (d + 7) 0 0 112 [(0, .ref (g.1 + 119)), (1, .int x1), (2, .int x2)] [] h rz hz := by
  unfold f_X12_fillsBoth_b112 at E
  refine qt_iload_n 2 dX12_fillsBoth_112 rfl rfl ?_
  refine qt_aload_n 0 dX12_fillsBoth_113 rfl rfl ?_
  refine qt_getS 120 (wl_119 h) fe_RX12_7 rfl dX12_fillsBoth_114 ?_
  refine qt_iconst dX12_fillsBoth_117 ci_2 ?_
  refine qt_iald (wl_120 h) dX12_fillsBoth_118 E (fun E => ?_)
  refine qt_icmp_ge 172 dX12_fillsBoth_119 (by decide) E (fun E => ?_) (fun E => ?_)
  · obtain ⟨z0_, E, G⟩ := qup_g E G
    exact qt_sub _ [0, 1] rfl ((s_X12_fillsBoth_b172 x1 h E G))
  · refine qt_iconst dX12_fillsBoth_122 ci_0 ?_
    refine qt_istore_n (fun v123 => [(3, .int v123), (0, .ref (g.1 + 119)), (1, .int x1), (2, .int x2)]) dX12_fillsBoth_123 rfl (Nat.le_of_ble_eq_true rfl) (fun _ => rfl) E (fun v123 E => ?_)
    exact qt_sub _ [1, 2, 3, 0] rfl ((s_X12_fillsBoth_b124_loop x1 x2 v123 h E G))
noncomputable def f_X12_fillsBoth_b112_loop (x1 : Int32) (x2 : Int32) (h : qa_M) : Option ((Int32 × qa_M) ⊕ qa_M) := qlp (fun sz : Int32 × Int32 × qa_M => f_X12_fillsBoth_b112 sz.1 sz.2.1 sz.2.2) (x1, x2, h)
theorem s_X12_fillsBoth_b112_loop {l : Launch} {g : qa_G} {d : Nat} {rz : Option Value} {hz : qa_M} (x1 : Int32) (x2 : Int32) (h : qa_M) {z : ((Int32 × qa_M) ⊕ qa_M)} (E : f_X12_fillsBoth_b112_loop x1 x2 h = some z) (G : (Sum.elim (fun (sz : Int32 × qa_M) => qt_At l g (yX12_fillsBoth, cX12_fillsBoth, 4, none) (d + 7) 0 0 68 [(0, .ref (g.1 + 119)), (1, .int sz.1)] [] sz.2 rz hz) (qg_v rz hz)) z) : qt_At l g (yX12_fillsBoth, cX12_fillsBoth, 4, none) (d + 7) 0 0 112 [(0, .ref (g.1 + 119)), (1, .int x1), (2, .int x2)] [] h rz hz :=
  qlp_ind (fun sz : Int32 × Int32 × qa_M => qt_At l g (yX12_fillsBoth, cX12_fillsBoth, 4, none) (d + 7) 0 0 112 [(0, .ref (g.1 + 119)), (1, .int sz.1), (2, .int sz.2.1)] [] sz.2.2 rz hz) (fun sz E => s_X12_fillsBoth_b112 sz.1 sz.2.1 sz.2.2 E G) (fun sz sz2 E ih => s_X12_fillsBoth_b112 sz.1 sz.2.1 sz.2.2 E ih) (x1, x2, h) E
noncomputable def f_X12_fillsBoth_b110 (x1 : Int32) (h : qa_M) : Option ((Int32 × qa_M) ⊕ qa_M) :=
  qbd (0 : Int32) (fun v111 : Int32 =>
  f_X12_fillsBoth_b112_loop x1 v111 h)
set_option maxRecDepth 20000 in
theorem s_X12_fillsBoth_b110 {l : Launch} {g : qa_G} {d : Nat} {rz : Option Value} {hz : qa_M} (x1 : Int32) (h : qa_M) {z : ((Int32 × qa_M) ⊕ qa_M)} (E : f_X12_fillsBoth_b110 x1 h = some z) (G : (Sum.elim (fun (sz : Int32 × qa_M) => qt_At l g (yX12_fillsBoth, cX12_fillsBoth, 4, none) (d + 7) 0 0 68 [(0, .ref (g.1 + 119)), (1, .int sz.1)] [] sz.2 rz hz) (qg_v rz hz)) z) : qt_At l g (yX12_fillsBoth, cX12_fillsBoth, 4, none) (d + 7) 0 0 110 [(0, .ref (g.1 + 119)), (1, .int x1)] [] h rz hz := by
  unfold f_X12_fillsBoth_b110 at E
  refine qt_iconst dX12_fillsBoth_110 ci_0 ?_
  refine qt_istore_n (fun v111 => [(2, .int v111), (0, .ref (g.1 + 119)), (1, .int x1)]) dX12_fillsBoth_111 rfl (Nat.le_of_ble_eq_true rfl) (fun _ => rfl) E (fun v111 E => ?_)
  exact qt_sub _ [1, 2, 0] rfl ((s_X12_fillsBoth_b112_loop x1 v111 h E G))
noncomputable def f_X12_fillsBoth_b78 (x1 : Int32) (x2 : Int32) (h : qa_M) : Option ((Int32 × Int32 × qa_M) ⊕ ((Int32 × qa_M) ⊕ qa_M)) :=
  qck (2 : Int32) 8 (
  if (h.1 120 (2 : Int32).toNatClampNeg) ≤ x2 then (
   qup (f_X12_fillsBoth_b110 x1 h))
  else (
   qck x2 36 (
   qbn (m_X12_noneSeen (h.2.1 156 x2.toNatClampNeg) h) (fun (c100 : Int32) (h100 : qa_M) =>
   qck x2 8 (
   qbd (qw_I h100 158 x2.toNatClampNeg c100) (fun h103 : qa_M =>
   qbd (x2 + (1 : Int32)) (fun v104 : Int32 =>
   some (.inl (x1, v104, h103)))))))))
set_option maxRecDepth 20000 in
theorem s_X12_fillsBoth_b78 {l : Launch} {g : qa_G} {d : Nat} {rz : Option Value} {hz : qa_M} (x1 : Int32) (x2 : Int32) (h : qa_M) {z : ((Int32 × Int32 × qa_M) ⊕ ((Int32 × qa_M) ⊕ qa_M))} (E : f_X12_fillsBoth_b78 x1 x2 h = some z) (G : (Sum.elim (fun (sz : Int32 × Int32 × qa_M) => qt_At l g (yX12_fillsBoth, cX12_fillsBoth, 4, none) (d + 7) 0 0 78 [(0, .ref (g.1 + 119)), (1, .int sz.1), (2, .int sz.2.1)] [] sz.2.2 rz hz) (Sum.elim (fun (sz : Int32 × qa_M) => qt_At l g (yX12_fillsBoth, cX12_fillsBoth, 4, none) (d + 7) 0 0 68 [(0, .ref (g.1 + 119)), (1, .int sz.1)] [] sz.2 rz hz) (qg_v rz hz))) z) : qt_At l g (yX12_fillsBoth, cX12_fillsBoth, 4, none) (d + 7) 0 0 78 [(0, .ref (g.1 + 119)), (1, .int x1), (2, .int x2)] [] h rz hz := by
  unfold f_X12_fillsBoth_b78 at E
  refine qt_iload_n 2 dX12_fillsBoth_78 rfl rfl ?_
  refine qt_aload_n 0 dX12_fillsBoth_79 rfl rfl ?_
  refine qt_getS 120 (wl_119 h) fe_RX12_7 rfl dX12_fillsBoth_80 ?_
  refine qt_iconst dX12_fillsBoth_83 ci_2 ?_
  refine qt_iald (wl_120 h) dX12_fillsBoth_84 E (fun E => ?_)
  refine qt_icmp_ge 110 dX12_fillsBoth_85 (by decide) E (fun E => ?_) (fun E => ?_)
  · obtain ⟨z0_, E, G⟩ := qup_g E G
    exact qt_sub _ [0, 1] rfl ((s_X12_fillsBoth_b110 x1 h E G))
  · refine qt_aload_n 0 dX12_fillsBoth_88 rfl rfl ?_
    refine qt_getS 158 (wl_119 h) fe_RX12_130 rfl dX12_fillsBoth_89 ?_
    refine qt_iload_n 2 dX12_fillsBoth_92 rfl rfl ?_
    refine qt_aload_n 0 dX12_fillsBoth_93 rfl rfl ?_
    refine qt_aload_n 0 dX12_fillsBoth_94 rfl rfl ?_
    refine qt_getS 156 (wl_119 h) fe_RX12_124 rfl dX12_fillsBoth_95 ?_
    refine qt_iload_n 2 dX12_fillsBoth_98 rfl rfl ?_
    refine qt_lald (wl_156 h) dX12_fillsBoth_99 E (fun E => ?_)
    obtain ⟨c100, h100, e100, E⟩ := qbn_el E
    refine qt_callVi (b2 := 0) [.long (h.2.1 156 x2.toNatClampNeg)] (c_X12_noneSeen (h.2.1 156 x2.toNatClampNeg) h e100) cv_RX12_485 (wl_119 h) rfl rfl rfl (Nat.le_of_ble_eq_true rfl) (Nat.le_of_ble_eq_true rfl) dX12_fillsBoth_100 ?_
    refine qt_iast (wl_158 h100) dX12_fillsBoth_103 E (fun h103 E => ?_)
    refine qt_iinc 2 (fun v104 => [(2, .int v104), (0, .ref (g.1 + 119)), (1, .int x1)]) dX12_fillsBoth_104 rfl ci_1 (Nat.le_of_ble_eq_true rfl) (fun _ => rfl) E (fun v104 E => ?_)
    refine qt_goto 78 dX12_fillsBoth_107 (by decide) ?_
    cases E
    exact qt_sub _ [1, 2, 0] rfl (G)
noncomputable def f_X12_fillsBoth_b78_loop (x1 : Int32) (x2 : Int32) (h : qa_M) : Option ((Int32 × qa_M) ⊕ qa_M) := qlp (fun sz : Int32 × Int32 × qa_M => f_X12_fillsBoth_b78 sz.1 sz.2.1 sz.2.2) (x1, x2, h)
theorem s_X12_fillsBoth_b78_loop {l : Launch} {g : qa_G} {d : Nat} {rz : Option Value} {hz : qa_M} (x1 : Int32) (x2 : Int32) (h : qa_M) {z : ((Int32 × qa_M) ⊕ qa_M)} (E : f_X12_fillsBoth_b78_loop x1 x2 h = some z) (G : (Sum.elim (fun (sz : Int32 × qa_M) => qt_At l g (yX12_fillsBoth, cX12_fillsBoth, 4, none) (d + 7) 0 0 68 [(0, .ref (g.1 + 119)), (1, .int sz.1)] [] sz.2 rz hz) (qg_v rz hz)) z) : qt_At l g (yX12_fillsBoth, cX12_fillsBoth, 4, none) (d + 7) 0 0 78 [(0, .ref (g.1 + 119)), (1, .int x1), (2, .int x2)] [] h rz hz :=
  qlp_ind (fun sz : Int32 × Int32 × qa_M => qt_At l g (yX12_fillsBoth, cX12_fillsBoth, 4, none) (d + 7) 0 0 78 [(0, .ref (g.1 + 119)), (1, .int sz.1), (2, .int sz.2.1)] [] sz.2.2 rz hz) (fun sz E => s_X12_fillsBoth_b78 sz.1 sz.2.1 sz.2.2 E G) (fun sz sz2 E ih => s_X12_fillsBoth_b78 sz.1 sz.2.1 sz.2.2 E ih) (x1, x2, h) E
noncomputable def f_X12_fillsBoth_b68 (x1 : Int32) (h : qa_M) : Option ((Int32 × qa_M) ⊕ qa_M) :=
  qbn (m_X12_goesTo x1 h) (fun (c70 : Int32) (h70 : qa_M) =>
  if c70 = 0 then (
   qup (some h70))
  else (
   qbd (0 : Int32) (fun v77 : Int32 =>
   f_X12_fillsBoth_b78_loop x1 v77 h70)))
set_option maxRecDepth 20000 in
theorem s_X12_fillsBoth_b68 {l : Launch} {g : qa_G} {d : Nat} {rz : Option Value} {hz : qa_M} (x1 : Int32) (h : qa_M) {z : ((Int32 × qa_M) ⊕ qa_M)} (E : f_X12_fillsBoth_b68 x1 h = some z) (G : (Sum.elim (fun (sz : Int32 × qa_M) => qt_At l g (yX12_fillsBoth, cX12_fillsBoth, 4, none) (d + 7) 0 0 68 [(0, .ref (g.1 + 119)), (1, .int sz.1)] [] sz.2 rz hz) (qg_v rz hz)) z) : qt_At l g (yX12_fillsBoth, cX12_fillsBoth, 4, none) (d + 7) 0 0 68 [(0, .ref (g.1 + 119)), (1, .int x1)] [] h rz hz := by
  unfold f_X12_fillsBoth_b68 at E
  refine qt_aload_n 0 dX12_fillsBoth_68 rfl rfl ?_
  refine qt_iload_n 1 dX12_fillsBoth_69 rfl rfl ?_
  obtain ⟨c70, h70, e70, E⟩ := qbn_el E
  refine qt_callVi (b2 := 0) [.int x1] (c_X12_goesTo x1 h e70) cv_RX12_449 (wl_119 h) rfl rfl rfl (Nat.le_of_ble_eq_true rfl) (Nat.le_of_ble_eq_true rfl) dX12_fillsBoth_70 ?_
  refine qt_if_eq 175 dX12_fillsBoth_73 (by decide) E (fun E => ?_) (fun E => ?_)
  · obtain ⟨z0_, E, G⟩ := qup_g E G
    exact qt_vreturn rfl (Nat.le_of_ble_eq_true rfl) dX12_fillsBoth_175 E G
  · refine qt_iconst dX12_fillsBoth_76 ci_0 ?_
    refine qt_istore_n (fun v77 => [(2, .int v77), (0, .ref (g.1 + 119)), (1, .int x1)]) dX12_fillsBoth_77 rfl (Nat.le_of_ble_eq_true rfl) (fun _ => rfl) E (fun v77 E => ?_)
    exact qt_sub _ [1, 2, 0] rfl ((s_X12_fillsBoth_b78_loop x1 v77 h70 E G))
noncomputable def f_X12_fillsBoth_b68_loop (x1 : Int32) (h : qa_M) : Option qa_M := qlp (fun sz : Int32 × qa_M => f_X12_fillsBoth_b68 sz.1 sz.2) (x1, h)
theorem s_X12_fillsBoth_b68_loop {l : Launch} {g : qa_G} {d : Nat} {rz : Option Value} {hz : qa_M} (x1 : Int32) (h : qa_M) {z : qa_M} (E : f_X12_fillsBoth_b68_loop x1 h = some z) (G : (qg_v rz hz) z) : qt_At l g (yX12_fillsBoth, cX12_fillsBoth, 4, none) (d + 7) 0 0 68 [(0, .ref (g.1 + 119)), (1, .int x1)] [] h rz hz :=
  qlp_ind (fun sz : Int32 × qa_M => qt_At l g (yX12_fillsBoth, cX12_fillsBoth, 4, none) (d + 7) 0 0 68 [(0, .ref (g.1 + 119)), (1, .int sz.1)] [] sz.2 rz hz) (fun sz E => s_X12_fillsBoth_b68 sz.1 sz.2 E G) (fun sz sz2 E ih => s_X12_fillsBoth_b68 sz.1 sz.2 E ih) (x1, h) E
noncomputable def f_X12_fillsBoth_b30 (x1 : Int32) (x2 : Int32) (h : qa_M) : Option ((Int32 × Int32 × qa_M) ⊕ qa_M) :=
  qck (2 : Int32) 8 (
  if (h.1 120 (2 : Int32).toNatClampNeg) ≤ x2 then (
   qup (f_X12_fillsBoth_b68_loop x1 h))
  else (
   qck x2 8 (
   qck x2 8 (
   qbn (m_X12_seenFrom (h.1 122 x2.toNatClampNeg) (h.1 123 x2.toNatClampNeg) h) (fun (c58 : Int64) (h58 : qa_M) =>
   qck x2 36 (
   qbd (qw_J h58 156 x2.toNatClampNeg c58) (fun h61 : qa_M =>
   qbd (x2 + (1 : Int32)) (fun v62 : Int32 =>
   some (.inl (x1, v62, h61))))))))))
set_option maxRecDepth 20000 in
theorem s_X12_fillsBoth_b30 {l : Launch} {g : qa_G} {d : Nat} {rz : Option Value} {hz : qa_M} (x1 : Int32) (x2 : Int32) (h : qa_M) {z : ((Int32 × Int32 × qa_M) ⊕ qa_M)} (E : f_X12_fillsBoth_b30 x1 x2 h = some z) (G : (Sum.elim (fun (sz : Int32 × Int32 × qa_M) => qt_At l g (yX12_fillsBoth, cX12_fillsBoth, 4, none) (d + 7) 0 0 30 [(0, .ref (g.1 + 119)), (1, .int sz.1), (2, .int sz.2.1)] [] sz.2.2 rz hz) (qg_v rz hz)) z) : qt_At l g (yX12_fillsBoth, cX12_fillsBoth, 4, none) (d + 7) 0 0 30 [(0, .ref (g.1 + 119)), (1, .int x1), (2, .int x2)] [] h rz hz := by
  unfold f_X12_fillsBoth_b30 at E
  refine qt_iload_n 2 dX12_fillsBoth_30 rfl rfl ?_
  refine qt_aload_n 0 dX12_fillsBoth_31 rfl rfl ?_
  refine qt_getS 120 (wl_119 h) fe_RX12_7 rfl dX12_fillsBoth_32 ?_
  refine qt_iconst dX12_fillsBoth_35 ci_2 ?_
  refine qt_iald (wl_120 h) dX12_fillsBoth_36 E (fun E => ?_)
  refine qt_icmp_ge 68 dX12_fillsBoth_37 (by decide) E (fun E => ?_) (fun E => ?_)
  · obtain ⟨z0_, E, G⟩ := qup_g E G
    exact qt_sub _ [0, 1] rfl ((s_X12_fillsBoth_b68_loop x1 h E G))
  · refine qt_aload_n 0 dX12_fillsBoth_40 rfl rfl ?_
    refine qt_getS 156 (wl_119 h) fe_RX12_124 rfl dX12_fillsBoth_41 ?_
    refine qt_iload_n 2 dX12_fillsBoth_44 rfl rfl ?_
    refine qt_aload_n 0 dX12_fillsBoth_45 rfl rfl ?_
    refine qt_aload_n 0 dX12_fillsBoth_46 rfl rfl ?_
    refine qt_getS 122 (wl_119 h) fe_RX12_16 rfl dX12_fillsBoth_47 ?_
    refine qt_iload_n 2 dX12_fillsBoth_50 rfl rfl ?_
    refine qt_iald (wl_122 h) dX12_fillsBoth_51 E (fun E => ?_)
    refine qt_aload_n 0 dX12_fillsBoth_52 rfl rfl ?_
    refine qt_getS 123 (wl_119 h) fe_RX12_19 rfl dX12_fillsBoth_53 ?_
    refine qt_iload_n 2 dX12_fillsBoth_56 rfl rfl ?_
    refine qt_iald (wl_123 h) dX12_fillsBoth_57 E (fun E => ?_)
    obtain ⟨c58, h58, e58, E⟩ := qbn_el E
    refine qt_callVl (b2 := 0) [.int (h.1 122 x2.toNatClampNeg), .int (h.1 123 x2.toNatClampNeg)] (c_X12_seenFrom (h.1 122 x2.toNatClampNeg) (h.1 123 x2.toNatClampNeg) h e58) cv_RX12_197 (wl_119 h) rfl rfl rfl (Nat.le_of_ble_eq_true rfl) (Nat.le_of_ble_eq_true rfl) dX12_fillsBoth_58 ?_
    refine qt_last (wl_156 h58) dX12_fillsBoth_61 E (fun h61 E => ?_)
    refine qt_iinc 2 (fun v62 => [(2, .int v62), (0, .ref (g.1 + 119)), (1, .int x1)]) dX12_fillsBoth_62 rfl ci_1 (Nat.le_of_ble_eq_true rfl) (fun _ => rfl) E (fun v62 E => ?_)
    refine qt_goto 30 dX12_fillsBoth_65 (by decide) ?_
    cases E
    exact qt_sub _ [1, 2, 0] rfl (G)
noncomputable def f_X12_fillsBoth_b30_loop (x1 : Int32) (x2 : Int32) (h : qa_M) : Option qa_M := qlp (fun sz : Int32 × Int32 × qa_M => f_X12_fillsBoth_b30 sz.1 sz.2.1 sz.2.2) (x1, x2, h)
theorem s_X12_fillsBoth_b30_loop {l : Launch} {g : qa_G} {d : Nat} {rz : Option Value} {hz : qa_M} (x1 : Int32) (x2 : Int32) (h : qa_M) {z : qa_M} (E : f_X12_fillsBoth_b30_loop x1 x2 h = some z) (G : (qg_v rz hz) z) : qt_At l g (yX12_fillsBoth, cX12_fillsBoth, 4, none) (d + 7) 0 0 30 [(0, .ref (g.1 + 119)), (1, .int x1), (2, .int x2)] [] h rz hz :=
  qlp_ind (fun sz : Int32 × Int32 × qa_M => qt_At l g (yX12_fillsBoth, cX12_fillsBoth, 4, none) (d + 7) 0 0 30 [(0, .ref (g.1 + 119)), (1, .int sz.1), (2, .int sz.2.1)] [] sz.2.2 rz hz) (fun sz E => s_X12_fillsBoth_b30 sz.1 sz.2.1 sz.2.2 E G) (fun sz sz2 E ih => s_X12_fillsBoth_b30 sz.1 sz.2.1 sz.2.2 E ih) (x1, x2, h) E
noncomputable def f_X12_fillsBoth_b24 (x1 : Int32) (h : qa_M) : Option qa_M :=
  qbv (m_X12_beginsLayings h) (fun h25 : qa_M =>
  qbd (0 : Int32) (fun v29 : Int32 =>
  f_X12_fillsBoth_b30_loop x1 v29 h25))
set_option maxRecDepth 20000 in
theorem s_X12_fillsBoth_b24 {l : Launch} {g : qa_G} {d : Nat} {rz : Option Value} {hz : qa_M} (x1 : Int32) (h : qa_M) {z : qa_M} (E : f_X12_fillsBoth_b24 x1 h = some z) (G : (qg_v rz hz) z) : qt_At l g (yX12_fillsBoth, cX12_fillsBoth, 4, none) (d + 7) 0 0 24 [(0, .ref (g.1 + 119)), (1, .int x1)] [] h rz hz := by
  unfold f_X12_fillsBoth_b24 at E
  refine qt_aload_n 0 dX12_fillsBoth_24 rfl rfl ?_
  obtain ⟨h25, e25, E⟩ := qbv_el E
  refine qt_callVv (b2 := 0) [] (c_X12_beginsLayings h e25) cv_RX12_446 (wl_119 h) rfl rfl rfl (Nat.le_of_ble_eq_true rfl) (Nat.le_of_ble_eq_true rfl) dX12_fillsBoth_25 ?_
  refine qt_iconst dX12_fillsBoth_28 ci_0 ?_
  refine qt_istore_n (fun v29 => [(2, .int v29), (0, .ref (g.1 + 119)), (1, .int x1)]) dX12_fillsBoth_29 rfl (Nat.le_of_ble_eq_true rfl) (fun _ => rfl) E (fun v29 E => ?_)
  exact qt_sub _ [1, 2, 0] rfl ((s_X12_fillsBoth_b30_loop x1 v29 h25 E G))
noncomputable def f_X12_fillsBoth_b2 (x1 : Int32) (x2 : Int32) (h : qa_M) : Option ((Int32 × Int32 × qa_M) ⊕ qa_M) :=
  if (16384 : Int32) ≤ x2 then (
   qup (f_X12_fillsBoth_b24 x1 h))
  else (
   qck x2 16384 (
   qbd (qw_I h 159 x2.toNatClampNeg (0 : Int32)) (fun h17 : qa_M =>
   qbd (x2 + (1 : Int32)) (fun v18 : Int32 =>
   some (.inl (x1, v18, h17))))))
set_option maxRecDepth 20000 in
theorem s_X12_fillsBoth_b2 {l : Launch} {g : qa_G} {d : Nat} {rz : Option Value} {hz : qa_M} (x1 : Int32) (x2 : Int32) (h : qa_M) {z : ((Int32 × Int32 × qa_M) ⊕ qa_M)} (E : f_X12_fillsBoth_b2 x1 x2 h = some z) (G : (Sum.elim (fun (sz : Int32 × Int32 × qa_M) => qt_At l g (yX12_fillsBoth, cX12_fillsBoth, 4, none) (d + 7) 0 0 2 [(0, .ref (g.1 + 119)), (1, .int sz.1), (2, .int sz.2.1)] [] sz.2.2 rz hz) (qg_v rz hz)) z) : qt_At l g (yX12_fillsBoth, cX12_fillsBoth, 4, none) (d + 7) 0 0 2 [(0, .ref (g.1 + 119)), (1, .int x1), (2, .int x2)] [] h rz hz := by
  unfold f_X12_fillsBoth_b2 at E
  refine qt_iload_n 2 dX12_fillsBoth_2 rfl rfl ?_
  refine qt_aload_n 0 dX12_fillsBoth_3 rfl rfl ?_
  refine qt_getS 159 (wl_119 h) fe_RX12_133 rfl dX12_fillsBoth_4 ?_
  refine qt_alen (v := (16384 : Int32)) (by decide) (wl_159 h) cn_16384 dX12_fillsBoth_7 ?_
  refine qt_icmp_ge 24 dX12_fillsBoth_8 (by decide) E (fun E => ?_) (fun E => ?_)
  · obtain ⟨z0_, E, G⟩ := qup_g E G
    exact qt_sub _ [0, 1] rfl ((s_X12_fillsBoth_b24 x1 h E G))
  · refine qt_aload_n 0 dX12_fillsBoth_11 rfl rfl ?_
    refine qt_getS 159 (wl_119 h) fe_RX12_133 rfl dX12_fillsBoth_12 ?_
    refine qt_iload_n 2 dX12_fillsBoth_15 rfl rfl ?_
    refine qt_iconst dX12_fillsBoth_16 ci_0 ?_
    refine qt_iast (wl_159 h) dX12_fillsBoth_17 E (fun h17 E => ?_)
    refine qt_iinc 2 (fun v18 => [(2, .int v18), (0, .ref (g.1 + 119)), (1, .int x1)]) dX12_fillsBoth_18 rfl ci_1 (Nat.le_of_ble_eq_true rfl) (fun _ => rfl) E (fun v18 E => ?_)
    refine qt_goto 2 dX12_fillsBoth_21 (by decide) ?_
    cases E
    exact qt_sub _ [1, 2, 0] rfl (G)
noncomputable def f_X12_fillsBoth_b2_loop (x1 : Int32) (x2 : Int32) (h : qa_M) : Option qa_M := qlp (fun sz : Int32 × Int32 × qa_M => f_X12_fillsBoth_b2 sz.1 sz.2.1 sz.2.2) (x1, x2, h)
theorem s_X12_fillsBoth_b2_loop {l : Launch} {g : qa_G} {d : Nat} {rz : Option Value} {hz : qa_M} (x1 : Int32) (x2 : Int32) (h : qa_M) {z : qa_M} (E : f_X12_fillsBoth_b2_loop x1 x2 h = some z) (G : (qg_v rz hz) z) : qt_At l g (yX12_fillsBoth, cX12_fillsBoth, 4, none) (d + 7) 0 0 2 [(0, .ref (g.1 + 119)), (1, .int x1), (2, .int x2)] [] h rz hz :=
  qlp_ind (fun sz : Int32 × Int32 × qa_M => qt_At l g (yX12_fillsBoth, cX12_fillsBoth, 4, none) (d + 7) 0 0 2 [(0, .ref (g.1 + 119)), (1, .int sz.1), (2, .int sz.2.1)] [] sz.2.2 rz hz) (fun sz E => s_X12_fillsBoth_b2 sz.1 sz.2.1 sz.2.2 E G) (fun sz sz2 E ih => s_X12_fillsBoth_b2 sz.1 sz.2.1 sz.2.2 E ih) (x1, x2, h) E
noncomputable def m_X12_fillsBoth (x1 : Int32) (h : qa_M) : Option qa_M :=
  qbd (0 : Int32) (fun v1 : Int32 =>
  f_X12_fillsBoth_b2_loop x1 v1 h)
set_option maxRecDepth 20000 in
theorem c_X12_fillsBoth {l : Launch} {g : qa_G} {d : Nat} (x1 : Int32) (h : qa_M) {h1 : qa_M} (E : m_X12_fillsBoth x1 h = some h1) : qt_Met l g (yX12_fillsBoth, cX12_fillsBoth, 4, none) (d + 7) 0 [.ref (g.1 + 119), .int x1] h none h1 := by
  refine qt_Met.of (plainFor_of_name (by decide)) (Nat.le_of_ble_eq_true rfl) ?_
  have G : qg_v none h1 (h1) := ⟨rfl, rfl⟩
  unfold m_X12_fillsBoth at E
  refine qt_iconst dX12_fillsBoth_0 ci_0 ?_
  refine qt_istore_n (fun v1 => [(2, .int v1), (0, .ref (g.1 + 119)), (1, .int x1)]) dX12_fillsBoth_1 rfl (Nat.le_of_ble_eq_true rfl) (fun _ => rfl) E (fun v1 E => ?_)
  exact qt_sub _ [1, 2, 0] rfl ((s_X12_fillsBoth_b2_loop x1 v1 h E G))
