noncomputable def f_X6_readValue_b90 (s0 : Nat) (s1 : Int32) (h : qa_M) : Option (Int32 × qa_M) :=
  qpr (s0 = 83 ∨ s0 = 92 ∨ s0 = 101 ∨ s0 = 110) (
  qbv (m_X5_emit s0 s1 h) (fun h90 : qa_M =>
  qbv (m_X9_scan h90) (fun h97 : qa_M =>
  some ((1 : Int32), h97))))
set_option maxRecDepth 20000 in
theorem s_X6_readValue_b90 {l : Launch} {g : qa_G} {d : Nat} {rz : Option Value} {hz : qa_M} (s0 : Nat) (s1 : Int32) (h : qa_M) {z : (Int32 × qa_M)} (E : f_X6_readValue_b90 s0 s1 h = some z) (G : (qg_i rz hz) z) : qt_At l g (yX6_readValue, cX6_readValue, 2, (some .boolean)) (d + 5) 0 0 90 [(0, .ref (g.1 + 21))] [.int s1, .ref (g.1 + s0)] h rz hz := by
  unfold f_X6_readValue_b90 at E
  obtain ⟨hs0, E⟩ := qpr_el E
  obtain ⟨h90, e90, E⟩ := qbv_el E
  refine qt_callVv (b2 := 0) [.int s1] (c_X5_emit s0 s1 h hs0 e90) cv_RX6_85 (wl_Law_0 hs0 h) rfl rfl rfl (Nat.le_of_ble_eq_true rfl) (Nat.le_of_ble_eq_true rfl) dX6_readValue_90 ?_
  refine qt_aload_n 0 dX6_readValue_93 rfl rfl ?_
  refine qt_getS 1 (wl_21 h90) fe_RX6_9 rfl dX6_readValue_94 ?_
  obtain ⟨h97, e97, E⟩ := qbv_el E
  refine qt_callVv (b2 := 0) [] (c_X9_scan h90 e97) cv_RX6_46 (wl_1 h90) rfl rfl rfl (Nat.le_of_ble_eq_true rfl) (Nat.le_of_ble_eq_true rfl) dX6_readValue_97 ?_
  refine qt_iconst dX6_readValue_100 ci_1 ?_
  exact qt_zreturn rfl (Or.inr rfl) (Nat.le_of_ble_eq_true rfl) dX6_readValue_101 E G
noncomputable def f_X6_readValue_b59 (x1 : Int32) (h : qa_M) : Option (Int32 × qa_M) :=
  qbn (m_X6_isRoomForPart h) (fun (c60 : Int32) (h60 : qa_M) =>
  if c60 = 0 then (
   some ((0 : Int32), h60))
  else (
   qnn (h60.2.2.1 21 1) (fun a69 =>
   qpr (a69 = 83 ∨ a69 = 92 ∨ a69 = 101 ∨ a69 = 110) (
   if x1 = (-1 : Int32) then (
    f_X6_readValue_b90 a69 (h60.1 1 5) h60)
   else (
    f_X6_readValue_b90 a69 ((-1 : Int32) - x1) h60)))))
set_option maxRecDepth 20000 in
theorem s_X6_readValue_b59 {l : Launch} {g : qa_G} {d : Nat} {rz : Option Value} {hz : qa_M} (x1 : Int32) (h : qa_M) {z : (Int32 × qa_M)} (E : f_X6_readValue_b59 x1 h = some z) (G : (qg_i rz hz) z) : qt_At l g (yX6_readValue, cX6_readValue, 2, (some .boolean)) (d + 5) 0 0 59 [(0, .ref (g.1 + 21)), (1, .int x1)] [] h rz hz := by
  unfold f_X6_readValue_b59 at E
  refine qt_aload_n 0 dX6_readValue_59 rfl rfl ?_
  obtain ⟨c60, h60, e60, E⟩ := qbn_el E
  refine qt_callVi (b2 := 0) [] (c_X6_isRoomForPart h e60) cv_RX6_103 (wl_21 h) rfl rfl rfl (Nat.le_of_ble_eq_true rfl) (Nat.le_of_ble_eq_true rfl) dX6_readValue_60 ?_
  refine qt_if_ne 68 dX6_readValue_63 (by decide) E (fun E => ?_) (fun E => ?_)
  · refine qt_aload_n 0 dX6_readValue_68 rfl rfl ?_
    refine qt_getR (wl_21 h60) fe_RX6_15 rfl dX6_readValue_69 ?_
    obtain ⟨a69, q69, E⟩ := qnn_el E
    refine qt_nn q69 ?_
    obtain ⟨p69, E⟩ := qpr_el E
    refine qt_iload_n 1 dX6_readValue_72 rfl rfl ?_
    refine qt_iconst dX6_readValue_73 ci_m1 ?_
    refine qt_icmp_ne 87 dX6_readValue_74 (by decide) E (fun E => ?_) (fun E => ?_)
    · refine qt_iconst dX6_readValue_87 ci_m1 ?_
      refine qt_iload_n 1 dX6_readValue_88 rfl rfl ?_
      refine qt_isub dX6_readValue_89 ?_
      exact qt_sub _ [0] rfl ((s_X6_readValue_b90 a69 ((-1 : Int32) - x1) h60 E G))
    · refine qt_aload_n 0 dX6_readValue_77 rfl rfl ?_
      refine qt_getS 1 (wl_21 h60) fe_RX6_9 rfl dX6_readValue_78 ?_
      refine qt_getI (wl_1 h60) fe_RX6_114 rfl dX6_readValue_81 ?_
      refine qt_goto 90 dX6_readValue_84 (by decide) ?_
      exact qt_sub _ [0] rfl ((s_X6_readValue_b90 a69 (h60.1 1 5) h60 E G))
  · refine qt_iconst dX6_readValue_66 ci_0 ?_
    exact qt_zreturn rfl (Or.inl rfl) (Nat.le_of_ble_eq_true rfl) dX6_readValue_67 E G
noncomputable def f_X6_readValue_b35 (x1 : Int32) (h : qa_M) : Option (Int32 × qa_M) :=
  if x1 = (-1 : Int32) then (
   if 0 ≤ (h.1 1 5) then (
    f_X6_readValue_b59 x1 h)
   else (
    qbn (m_X9_fail (1 : Int32) h) (fun (c55 : Int32) (h55 : qa_M) =>
    qpr (c55 = 0 ∨ c55 = 1) (
    some (c55, h55)))))
  else (
   f_X6_readValue_b59 x1 h)
set_option maxRecDepth 20000 in
theorem s_X6_readValue_b35 {l : Launch} {g : qa_G} {d : Nat} {rz : Option Value} {hz : qa_M} (x1 : Int32) (h : qa_M) {z : (Int32 × qa_M)} (E : f_X6_readValue_b35 x1 h = some z) (G : (qg_i rz hz) z) : qt_At l g (yX6_readValue, cX6_readValue, 2, (some .boolean)) (d + 5) 0 0 35 [(0, .ref (g.1 + 21)), (1, .int x1)] [] h rz hz := by
  unfold f_X6_readValue_b35 at E
  refine qt_iload_n 1 dX6_readValue_35 rfl rfl ?_
  refine qt_iconst dX6_readValue_36 ci_m1 ?_
  refine qt_icmp_ne 59 dX6_readValue_37 (by decide) E (fun E => ?_) (fun E => ?_)
  · exact qt_sub _ [0, 1] rfl ((s_X6_readValue_b59 x1 h E G))
  · refine qt_aload_n 0 dX6_readValue_40 rfl rfl ?_
    refine qt_getS 1 (wl_21 h) fe_RX6_9 rfl dX6_readValue_41 ?_
    refine qt_getI (wl_1 h) fe_RX6_114 rfl dX6_readValue_44 ?_
    refine qt_if_ge 59 dX6_readValue_47 (by decide) E (fun E => ?_) (fun E => ?_)
    · exact qt_sub _ [0, 1] rfl ((s_X6_readValue_b59 x1 h E G))
    · refine qt_aload_n 0 dX6_readValue_50 rfl rfl ?_
      refine qt_getS 1 (wl_21 h) fe_RX6_9 rfl dX6_readValue_51 ?_
      refine qt_iconst dX6_readValue_54 ci_1 ?_
      obtain ⟨c55, h55, e55, E⟩ := qbn_el E
      refine qt_callVi (b2 := 0) [.int (1 : Int32)] (c_X9_fail (1 : Int32) h e55) cv_RX6_39 (wl_1 h) rfl rfl rfl (Nat.le_of_ble_eq_true rfl) (Nat.le_of_ble_eq_true rfl) dX6_readValue_55 ?_
      obtain ⟨z58, E⟩ := qpr_el E
      exact qt_zreturn rfl z58 (Nat.le_of_ble_eq_true rfl) dX6_readValue_58 E G
noncomputable def m_X6_readValue (h : qa_M) : Option (Int32 × qa_M) :=
  qbn (m_X9_among 3 h) (fun (c6 : Int32) (h6 : qa_M) =>
  qbd c6 (fun v9 : Int32 =>
  if (h6.1 1 3) = (1 : Int32) then (
   f_X6_readValue_b35 v9 h6)
  else (
   if v9 = (-1 : Int32) then (
    qbn (m_X9_fail (0 : Int32) h6) (fun (c31 : Int32) (h31 : qa_M) =>
    qpr (c31 = 0 ∨ c31 = 1) (
    some (c31, h31))))
   else (
    f_X6_readValue_b35 v9 h6))))
set_option maxRecDepth 20000 in
theorem c_X6_readValue {l : Launch} {g : qa_G} {d : Nat} (h : qa_M) {c : Int32} {h1 : qa_M} (E : m_X6_readValue h = some (c, h1)) : qt_Met l g (yX6_readValue, cX6_readValue, 2, (some .boolean)) (d + 5) 0 [.ref (g.1 + 21)] h (some (.int c)) h1 := by
  refine qt_Met.of (plainFor_of_name (by decide)) (Nat.le_of_ble_eq_true rfl) ?_
  have G : qg_i (some (.int c)) h1 ((c, h1)) := ⟨rfl, rfl⟩
  unfold m_X6_readValue at E
  refine qt_aload_n 0 dX6_readValue_0 rfl rfl ?_
  refine qt_getS 1 (wl_21 h) fe_RX6_9 rfl dX6_readValue_1 ?_
  refine qt_ldcS sr_RX6_112 dX6_readValue_4 ?_
  obtain ⟨c6, h6, e6, E⟩ := qbn_el E
  refine qt_callVi (b2 := 0) [.ref (g.2.2.2.1 3)] (c_X9_among 3 h (by decide) e6) cv_RX6_35 (wl_1 h) rfl rfl rfl (Nat.le_of_ble_eq_true rfl) (Nat.le_of_ble_eq_true rfl) dX6_readValue_6 ?_
  refine qt_istore_n (fun v9 => [(1, .int v9), (0, .ref (g.1 + 21))]) dX6_readValue_9 rfl (Nat.le_of_ble_eq_true rfl) (fun _ => rfl) E (fun v9 E => ?_)
  refine qt_aload_n 1 dX6_readValue_10 rfl rfl ?_
  refine qt_getS 1 (wl_21 h6) fe_RX6_9 rfl dX6_readValue_11 ?_
  refine qt_getI (wl_1 h6) fe_RX6_59 rfl dX6_readValue_14 ?_
  refine qt_iconst dX6_readValue_17 ci_1 ?_
  refine qt_icmp_eq 35 dX6_readValue_18 (by decide) E (fun E => ?_) (fun E => ?_)
  · exact qt_sub _ [1, 0] rfl ((s_X6_readValue_b35 v9 h6 E G))
  · refine qt_iload_n 0 dX6_readValue_21 rfl rfl ?_
    refine qt_iconst dX6_readValue_22 ci_m1 ?_
    refine qt_icmp_ne 35 dX6_readValue_23 (by decide) E (fun E => ?_) (fun E => ?_)
    · exact qt_sub _ [1, 0] rfl ((s_X6_readValue_b35 v9 h6 E G))
    · refine qt_aload_n 1 dX6_readValue_26 rfl rfl ?_
      refine qt_getS 1 (wl_21 h6) fe_RX6_9 rfl dX6_readValue_27 ?_
      refine qt_iconst dX6_readValue_30 ci_0 ?_
      obtain ⟨c31, h31, e31, E⟩ := qbn_el E
      refine qt_callVi (b2 := 0) [.int (0 : Int32)] (c_X9_fail (0 : Int32) h6 e31) cv_RX6_39 (wl_1 h6) rfl rfl rfl (Nat.le_of_ble_eq_true rfl) (Nat.le_of_ble_eq_true rfl) dX6_readValue_31 ?_
      obtain ⟨z34, E⟩ := qpr_el E
      exact qt_zreturn rfl z34 (Nat.le_of_ble_eq_true rfl) dX6_readValue_34 E G
noncomputable def m_X6_signCode (h : qa_M) : Option (Int32 × qa_M) :=
  if (h.1 1 3) = (3 : Int32) then (
   if h.1 1 5 = (42 : Int32) then (
    some ((-13 : Int32), h))
   else (
   if h.1 1 5 = (43 : Int32) then (
    some ((-11 : Int32), h))
   else (
   if h.1 1 5 = (45 : Int32) then (
    some ((-12 : Int32), h))
   else (
   if h.1 1 5 = (47 : Int32) then (
    some ((-14 : Int32), h))
   else (
   if h.1 1 5 = (60 : Int32) then (
    some ((-15 : Int32), h))
   else (
   if h.1 1 5 = (61 : Int32) then (
    some ((-17 : Int32), h))
   else (
   if h.1 1 5 = (62 : Int32) then (
    some ((-19 : Int32), h))
   else (
   if h.1 1 5 = (316 : Int32) then (
    some ((-16 : Int32), h))
   else (
   if h.1 1 5 = (318 : Int32) then (
    some ((-18 : Int32), h))
   else (
   some ((0 : Int32), h)))))))))))
  else (
   some ((0 : Int32), h))
set_option maxRecDepth 20000 in
theorem c_X6_signCode {l : Launch} {g : qa_G} {d : Nat} (h : qa_M) {c : Int32} {h1 : qa_M} (E : m_X6_signCode h = some (c, h1)) : qt_Met l g (yX6_signCode, cX6_signCode, 1, (some .int)) d 0 [.ref (g.1 + 21)] h (some (.int c)) h1 := by
  refine qt_Met.of (plainFor_of_name (by decide)) (Nat.le_of_ble_eq_true rfl) ?_
  have G : qg_i (some (.int c)) h1 ((c, h1)) := ⟨rfl, rfl⟩
  unfold m_X6_signCode at E
  refine qt_aload_n 0 dX6_signCode_0 rfl rfl ?_
  refine qt_getS 1 (wl_21 h) fe_RX6_9 rfl dX6_signCode_1 ?_
  refine qt_getI (wl_1 h) fe_RX6_59 rfl dX6_signCode_4 ?_
  refine qt_iconst dX6_signCode_7 ci_3 ?_
  refine qt_icmp_eq 13 dX6_signCode_8 (by decide) E (fun E => ?_) (fun E => ?_)
  · refine qt_aload_n 0 dX6_signCode_13 rfl rfl ?_
    refine qt_getS 1 (wl_21 h) fe_RX6_9 rfl dX6_signCode_14 ?_
    refine qt_getI (wl_1 h) fe_RX6_114 rfl dX6_signCode_17 ?_
    by_cases c20_0 : h.1 1 5 = (42 : Int32)
    · replace E := qif_t c20_0 E
      refine qt_lookIn (off := 90) 110 dX6_signCode_20 c20_0 (by decide) (by decide) (by decide) ?_
      refine qt_bipush dX6_signCode_110 cb_m13 ?_
      exact qt_ireturn rfl (Nat.le_of_ble_eq_true rfl) dX6_signCode_112 E G
    replace E := qif_f c20_0 E
    by_cases c20_1 : h.1 1 5 = (43 : Int32)
    · replace E := qif_t c20_1 E
      refine qt_lookIn (off := 84) 104 dX6_signCode_20 c20_1 (by decide) (by decide) (by decide) ?_
      refine qt_bipush dX6_signCode_104 cb_m11 ?_
      exact qt_ireturn rfl (Nat.le_of_ble_eq_true rfl) dX6_signCode_106 E G
    replace E := qif_f c20_1 E
    by_cases c20_2 : h.1 1 5 = (45 : Int32)
    · replace E := qif_t c20_2 E
      refine qt_lookIn (off := 87) 107 dX6_signCode_20 c20_2 (by decide) (by decide) (by decide) ?_
      refine qt_bipush dX6_signCode_107 cb_m12 ?_
      exact qt_ireturn rfl (Nat.le_of_ble_eq_true rfl) dX6_signCode_109 E G
    replace E := qif_f c20_2 E
    by_cases c20_3 : h.1 1 5 = (47 : Int32)
    · replace E := qif_t c20_3 E
      refine qt_lookIn (off := 93) 113 dX6_signCode_20 c20_3 (by decide) (by decide) (by decide) ?_
      refine qt_bipush dX6_signCode_113 cb_m14 ?_
      exact qt_ireturn rfl (Nat.le_of_ble_eq_true rfl) dX6_signCode_115 E G
    replace E := qif_f c20_3 E
    by_cases c20_4 : h.1 1 5 = (60 : Int32)
    · replace E := qif_t c20_4 E
      refine qt_lookIn (off := 96) 116 dX6_signCode_20 c20_4 (by decide) (by decide) (by decide) ?_
      refine qt_bipush dX6_signCode_116 cb_m15 ?_
      exact qt_ireturn rfl (Nat.le_of_ble_eq_true rfl) dX6_signCode_118 E G
    replace E := qif_f c20_4 E
    by_cases c20_5 : h.1 1 5 = (61 : Int32)
    · replace E := qif_t c20_5 E
      refine qt_lookIn (off := 102) 122 dX6_signCode_20 c20_5 (by decide) (by decide) (by decide) ?_
      refine qt_bipush dX6_signCode_122 cb_m17 ?_
      exact qt_ireturn rfl (Nat.le_of_ble_eq_true rfl) dX6_signCode_124 E G
    replace E := qif_f c20_5 E
    by_cases c20_6 : h.1 1 5 = (62 : Int32)
    · replace E := qif_t c20_6 E
      refine qt_lookIn (off := 108) 128 dX6_signCode_20 c20_6 (by decide) (by decide) (by decide) ?_
      refine qt_bipush dX6_signCode_128 cb_m19 ?_
      exact qt_ireturn rfl (Nat.le_of_ble_eq_true rfl) dX6_signCode_130 E G
    replace E := qif_f c20_6 E
    by_cases c20_7 : h.1 1 5 = (316 : Int32)
    · replace E := qif_t c20_7 E
      refine qt_lookIn (off := 99) 119 dX6_signCode_20 c20_7 (by decide) (by decide) (by decide) ?_
      refine qt_bipush dX6_signCode_119 cb_m16 ?_
      exact qt_ireturn rfl (Nat.le_of_ble_eq_true rfl) dX6_signCode_121 E G
    replace E := qif_f c20_7 E
    by_cases c20_8 : h.1 1 5 = (318 : Int32)
    · replace E := qif_t c20_8 E
      refine qt_lookIn (off := 105) 125 dX6_signCode_20 c20_8 (by decide) (by decide) (by decide) ?_
      refine qt_bipush dX6_signCode_125 cb_m18 ?_
      exact qt_ireturn rfl (Nat.le_of_ble_eq_true rfl) dX6_signCode_127 E G
    replace E := qif_f c20_8 E
    refine qt_lookup (off := 111) 131 dX6_signCode_20 (by decide) ((lv_osw c20_0 (by decide)).trans ((lv_osw c20_1 (by decide)).trans ((lv_osw c20_2 (by decide)).trans ((lv_osw c20_3 (by decide)).trans ((lv_osw c20_4 (by decide)).trans ((lv_osw c20_5 (by decide)).trans ((lv_osw c20_6 (by decide)).trans ((lv_osw c20_7 (by decide)).trans ((lv_osw c20_8 (by decide)).trans rfl))))))))) (by decide) ?_
    refine qt_iconst dX6_signCode_131 ci_0 ?_
    exact qt_ireturn rfl (Nat.le_of_ble_eq_true rfl) dX6_signCode_132 E G
  · refine qt_iconst dX6_signCode_11 ci_0 ?_
    exact qt_ireturn rfl (Nat.le_of_ble_eq_true rfl) dX6_signCode_12 E G
noncomputable def f_X6_readSum_b110 (x1 : Int32) (h : qa_M) : Option (Int32 × qa_M) :=
  if x1 = 0 then (
   some ((1 : Int32), h))
  else (
   qnn (h.2.2.1 21 1) (fun a115 =>
   qpr (a115 = 83 ∨ a115 = 92 ∨ a115 = 101 ∨ a115 = 110) (
   qbv (m_X5_emit a115 x1 h) (fun h119 : qa_M =>
   some ((1 : Int32), h119)))))
set_option maxRecDepth 20000 in
theorem s_X6_readSum_b110 {l : Launch} {g : qa_G} {d : Nat} {rz : Option Value} {hz : qa_M} (x1 : Int32) (h : qa_M) {z : (Int32 × qa_M)} (E : f_X6_readSum_b110 x1 h = some z) (G : (qg_i rz hz) z) : qt_At l g (yX6_readSum, cX6_readSum, 5, (some .boolean)) (d + 6) 0 0 110 [(0, .ref (g.1 + 21)), (1, .int x1)] [] h rz hz := by
  unfold f_X6_readSum_b110 at E
  refine qt_iload_n 1 dX6_readSum_110 rfl rfl ?_
  refine qt_if_eq 122 dX6_readSum_111 (by decide) E (fun E => ?_) (fun E => ?_)
  · refine qt_iconst dX6_readSum_122 ci_1 ?_
    exact qt_zreturn rfl (Or.inr rfl) (Nat.le_of_ble_eq_true rfl) dX6_readSum_123 E G
  · refine qt_aload_n 0 dX6_readSum_114 rfl rfl ?_
    refine qt_getR (wl_21 h) fe_RX6_15 rfl dX6_readSum_115 ?_
    obtain ⟨a115, q115, E⟩ := qnn_el E
    refine qt_nn q115 ?_
    obtain ⟨p115, E⟩ := qpr_el E
    refine qt_iload_n 1 dX6_readSum_118 rfl rfl ?_
    obtain ⟨h119, e119, E⟩ := qbv_el E
    refine qt_callVv (b2 := 0) [.int x1] (c_X5_emit a115 x1 h p115 e119) cv_RX6_85 (wl_Law_0 p115 h) rfl rfl rfl (Nat.le_of_ble_eq_true rfl) (Nat.le_of_ble_eq_true rfl) dX6_readSum_119 ?_
    refine qt_iconst dX6_readSum_122 ci_1 ?_
    exact qt_zreturn rfl (Or.inr rfl) (Nat.le_of_ble_eq_true rfl) dX6_readSum_123 E G
noncomputable def f_X6_readSum_b104 (x1 : Int32) (x2 : Int32) (h : qa_M) : Option ((Int32 × Int32 × qa_M) ⊕ (Int32 × qa_M)) :=
  qbd (x2 + (1 : Int32)) (fun v104 : Int32 =>
  some (.inl (x1, v104, h)))
set_option maxRecDepth 20000 in
theorem s_X6_readSum_b104 {l : Launch} {g : qa_G} {d : Nat} {rz : Option Value} {hz : qa_M} (x1 : Int32) (x2 : Int32) (h : qa_M) {z : ((Int32 × Int32 × qa_M) ⊕ (Int32 × qa_M))} (E : f_X6_readSum_b104 x1 x2 h = some z) (G : (Sum.elim (fun (sz : Int32 × Int32 × qa_M) => qt_At l g (yX6_readSum, cX6_readSum, 5, (some .boolean)) (d + 6) 0 0 13 [(0, .ref (g.1 + 21)), (1, .int sz.1), (2, .int sz.2.1)] [] sz.2.2 rz hz) (qg_i rz hz)) z) : qt_At l g (yX6_readSum, cX6_readSum, 5, (some .boolean)) (d + 6) 0 0 104 [(0, .ref (g.1 + 21)), (1, .int x1), (2, .int x2)] [] h rz hz := by
  unfold f_X6_readSum_b104 at E
  refine qt_iinc 2 (fun v104 => [(2, .int v104), (0, .ref (g.1 + 21)), (1, .int x1)]) dX6_readSum_104 rfl ci_1 (Nat.le_of_ble_eq_true rfl) (fun _ => rfl) E (fun v104 E => ?_)
  refine qt_goto 13 dX6_readSum_107 (by decide) ?_
  cases E
  exact qt_sub _ [1, 2, 0] rfl (G)
noncomputable def f_X6_readSum_b70 (x1 : Int32) (x2 : Int32) (x3 : Int32) (x4 : Int32) (h : qa_M) : Option ((Int32 × Int32 × qa_M) ⊕ (Int32 × qa_M)) :=
  qbv (m_X9_scan h) (fun h74 : qa_M =>
  qbn (m_X6_readValue h74) (fun (c78 : Int32) (h78 : qa_M) =>
  if c78 = 0 then (
   qup (some ((0 : Int32), h78)))
  else (
   if x4 = 0 then (
    qnn (h78.2.2.1 21 1) (fun a97 =>
    qpr (a97 = 83 ∨ a97 = 92 ∨ a97 = 101 ∨ a97 = 110) (
    qbv (m_X5_emit a97 x3 h78) (fun h101 : qa_M =>
    f_X6_readSum_b104 x1 x2 h101))))
   else (
    qbd x3 (fun v92 : Int32 =>
    f_X6_readSum_b104 v92 x2 h78)))))
set_option maxRecDepth 20000 in
theorem s_X6_readSum_b70 {l : Launch} {g : qa_G} {d : Nat} {rz : Option Value} {hz : qa_M} (x1 : Int32) (x2 : Int32) (x3 : Int32) (x4 : Int32) (h : qa_M) {z : ((Int32 × Int32 × qa_M) ⊕ (Int32 × qa_M))} (E : f_X6_readSum_b70 x1 x2 x3 x4 h = some z) (G : (Sum.elim (fun (sz : Int32 × Int32 × qa_M) => qt_At l g (yX6_readSum, cX6_readSum, 5, (some .boolean)) (d + 6) 0 0 13 [(0, .ref (g.1 + 21)), (1, .int sz.1), (2, .int sz.2.1)] [] sz.2.2 rz hz) (qg_i rz hz)) z) : qt_At l g (yX6_readSum, cX6_readSum, 5, (some .boolean)) (d + 6) 0 0 70 [(0, .ref (g.1 + 21)), (1, .int x1), (2, .int x2), (3, .int x3), (4, .int x4)] [] h rz hz := by
  unfold f_X6_readSum_b70 at E
  refine qt_aload_n 0 dX6_readSum_70 rfl rfl ?_
  refine qt_getS 1 (wl_21 h) fe_RX6_9 rfl dX6_readSum_71 ?_
  obtain ⟨h74, e74, E⟩ := qbv_el E
  refine qt_callVv (b2 := 0) [] (c_X9_scan h e74) cv_RX6_46 (wl_1 h) rfl rfl rfl (Nat.le_of_ble_eq_true rfl) (Nat.le_of_ble_eq_true rfl) dX6_readSum_74 ?_
  refine qt_aload_n 0 dX6_readSum_77 rfl rfl ?_
  obtain ⟨c78, h78, e78, E⟩ := qbn_el E
  refine qt_callVi (b2 := 0) [] (c_X6_readValue h74 e78) cv_RX6_109 (wl_21 h74) rfl rfl rfl (Nat.le_of_ble_eq_true rfl) (Nat.le_of_ble_eq_true rfl) dX6_readSum_78 ?_
  refine qt_if_ne 86 dX6_readSum_81 (by decide) E (fun E => ?_) (fun E => ?_)
  · refine qt_iload 4 dX6_readSum_86 rfl ?_
    refine qt_if_eq 96 dX6_readSum_88 (by decide) E (fun E => ?_) (fun E => ?_)
    · refine qt_aload_n 0 dX6_readSum_96 rfl rfl ?_
      refine qt_getR (wl_21 h78) fe_RX6_15 rfl dX6_readSum_97 ?_
      obtain ⟨a97, q97, E⟩ := qnn_el E
      refine qt_nn q97 ?_
      obtain ⟨p97, E⟩ := qpr_el E
      refine qt_iload_n 3 dX6_readSum_100 rfl rfl ?_
      obtain ⟨h101, e101, E⟩ := qbv_el E
      refine qt_callVv (b2 := 0) [.int x3] (c_X5_emit a97 x3 h78 p97 e101) cv_RX6_85 (wl_Law_0 p97 h78) rfl rfl rfl (Nat.le_of_ble_eq_true rfl) (Nat.le_of_ble_eq_true rfl) dX6_readSum_101 ?_
      exact qt_sub _ [0, 1, 2] rfl ((s_X6_readSum_b104 x1 x2 h101 E G))
    · refine qt_iload_n 3 dX6_readSum_91 rfl rfl ?_
      refine qt_istore_n (fun v92 => [(1, .int v92), (0, .ref (g.1 + 21)), (2, .int x2), (3, .int x3), (4, .int x4)]) dX6_readSum_92 rfl (Nat.le_of_ble_eq_true rfl) (fun _ => rfl) E (fun v92 E => ?_)
      refine qt_goto 104 dX6_readSum_93 (by decide) ?_
      exact qt_sub _ [1, 0, 2] rfl ((s_X6_readSum_b104 v92 x2 h78 E G))
  · refine qt_iconst dX6_readSum_84 ci_0 ?_
    obtain ⟨z0_, E, G⟩ := qup_g E G
    exact qt_zreturn rfl (Or.inl rfl) (Nat.le_of_ble_eq_true rfl) dX6_readSum_85 E G
noncomputable def f_X6_readSum_b51 (x1 : Int32) (x2 : Int32) (x3 : Int32) (s0 : Int32) (h : qa_M) : Option ((Int32 × Int32 × qa_M) ⊕ (Int32 × qa_M)) :=
  qbd s0 (fun v51 : Int32 =>
  if v51 = 0 then (
   f_X6_readSum_b70 x1 x2 x3 v51 h)
  else (
   if x1 = 0 then (
    f_X6_readSum_b70 x1 x2 x3 v51 h)
   else (
    qnn (h.2.2.1 21 1) (fun a63 =>
    qpr (a63 = 83 ∨ a63 = 92 ∨ a63 = 101 ∨ a63 = 110) (
    qbv (m_X5_emit a63 x1 h) (fun h67 : qa_M =>
    f_X6_readSum_b70 x1 x2 x3 v51 h67))))))
set_option maxRecDepth 20000 in
theorem s_X6_readSum_b51 {l : Launch} {g : qa_G} {d : Nat} {rz : Option Value} {hz : qa_M} (x1 : Int32) (x2 : Int32) (x3 : Int32) (s0 : Int32) (h : qa_M) {z : ((Int32 × Int32 × qa_M) ⊕ (Int32 × qa_M))} (E : f_X6_readSum_b51 x1 x2 x3 s0 h = some z) (G : (Sum.elim (fun (sz : Int32 × Int32 × qa_M) => qt_At l g (yX6_readSum, cX6_readSum, 5, (some .boolean)) (d + 6) 0 0 13 [(0, .ref (g.1 + 21)), (1, .int sz.1), (2, .int sz.2.1)] [] sz.2.2 rz hz) (qg_i rz hz)) z) : qt_At l g (yX6_readSum, cX6_readSum, 5, (some .boolean)) (d + 6) 0 0 51 [(0, .ref (g.1 + 21)), (1, .int x1), (2, .int x2), (3, .int x3)] [.int s0] h rz hz := by
  unfold f_X6_readSum_b51 at E
  refine qt_istore (fun v51 => [(4, .int v51), (0, .ref (g.1 + 21)), (1, .int x1), (2, .int x2), (3, .int x3)]) dX6_readSum_51 (Nat.le_of_ble_eq_true rfl) (fun _ => rfl) E (fun v51 E => ?_)
  refine qt_iload 0 dX6_readSum_53 rfl ?_
  refine qt_if_eq 70 dX6_readSum_55 (by decide) E (fun E => ?_) (fun E => ?_)
  · exact qt_sub _ [1, 2, 3, 4, 0] rfl ((s_X6_readSum_b70 x1 x2 x3 v51 h E G))
  · refine qt_iload_n 2 dX6_readSum_58 rfl rfl ?_
    refine qt_if_eq 70 dX6_readSum_59 (by decide) E (fun E => ?_) (fun E => ?_)
    · exact qt_sub _ [1, 2, 3, 4, 0] rfl ((s_X6_readSum_b70 x1 x2 x3 v51 h E G))
    · refine qt_aload_n 1 dX6_readSum_62 rfl rfl ?_
      refine qt_getR (wl_21 h) fe_RX6_15 rfl dX6_readSum_63 ?_
      obtain ⟨a63, q63, E⟩ := qnn_el E
      refine qt_nn q63 ?_
      obtain ⟨p63, E⟩ := qpr_el E
      refine qt_iload_n 2 dX6_readSum_66 rfl rfl ?_
      obtain ⟨h67, e67, E⟩ := qbv_el E
      refine qt_callVv (b2 := 0) [.int x1] (c_X5_emit a63 x1 h p63 e67) cv_RX6_85 (wl_Law_0 p63 h) rfl rfl rfl (Nat.le_of_ble_eq_true rfl) (Nat.le_of_ble_eq_true rfl) dX6_readSum_67 ?_
      exact qt_sub _ [1, 2, 3, 4, 0] rfl ((s_X6_readSum_b70 x1 x2 x3 v51 h67 E G))
noncomputable def f_X6_readSum_b37 (x1 : Int32) (h : qa_M) : Option (Int32 × qa_M) :=
  f_X6_readSum_b110 x1 h
set_option maxRecDepth 20000 in
theorem s_X6_readSum_b37 {l : Launch} {g : qa_G} {d : Nat} {rz : Option Value} {hz : qa_M} (x1 : Int32) (h : qa_M) {z : (Int32 × qa_M)} (E : f_X6_readSum_b37 x1 h = some z) (G : (qg_i rz hz) z) : qt_At l g (yX6_readSum, cX6_readSum, 5, (some .boolean)) (d + 6) 0 0 37 [(0, .ref (g.1 + 21)), (1, .int x1)] [] h rz hz := by
  unfold f_X6_readSum_b37 at E
  refine qt_goto 110 dX6_readSum_37 (by decide) ?_
  exact qt_sub _ [0, 1] rfl ((s_X6_readSum_b110 x1 h E G))
noncomputable def f_X6_readSum_b13 (x1 : Int32) (x2 : Int32) (h : qa_M) : Option ((Int32 × Int32 × qa_M) ⊕ (Int32 × qa_M)) :=
  if (400 : Int32) ≤ x2 then (
   qup (f_X6_readSum_b110 x1 h))
  else (
   qbn (m_X6_signCode h) (fun (c21 : Int32) (h21 : qa_M) =>
   qbd c21 (fun v24 : Int32 =>
   if (-11 : Int32) < v24 then (
    qup (f_X6_readSum_b110 x1 h21))
   else (
    if (-14 : Int32) ≤ v24 then (
     if v24 < (-12 : Int32) then (
      f_X6_readSum_b51 x1 x2 v24 (0 : Int32) h21)
     else (
      f_X6_readSum_b51 x1 x2 v24 (1 : Int32) h21))
    else (
     qup (f_X6_readSum_b37 x1 h21))))))
set_option maxRecDepth 20000 in
theorem s_X6_readSum_b13 {l : Launch} {g : qa_G} {d : Nat} {rz : Option Value} {hz : qa_M} (x1 : Int32) (x2 : Int32) (h : qa_M) {z : ((Int32 × Int32 × qa_M) ⊕ (Int32 × qa_M))} (E : f_X6_readSum_b13 x1 x2 h = some z) (G : (Sum.elim (fun (sz : Int32 × Int32 × qa_M) => qt_At l g (yX6_readSum, cX6_readSum, 5, (some .boolean)) (d + 6) 0 0 13 [(0, .ref (g.1 + 21)), (1, .int sz.1), (2, .int sz.2.1)] [] sz.2.2 rz hz) (qg_i rz hz)) z) : qt_At l g (yX6_readSum, cX6_readSum, 5, (some .boolean)) (d + 6) 0 0 13 [(0, .ref (g.1 + 21)), (1, .int x1), (2, .int x2)] [] h rz hz := by
  unfold f_X6_readSum_b13 at E
  refine qt_iload_n 2 dX6_readSum_13 rfl rfl ?_
  refine qt_sipush dX6_readSum_14 cs_400 ?_
  refine qt_icmp_ge 110 dX6_readSum_17 (by decide) E (fun E => ?_) (fun E => ?_)
  · obtain ⟨z0_, E, G⟩ := qup_g E G
    exact qt_sub _ [0, 1] rfl ((s_X6_readSum_b110 x1 h E G))
  · refine qt_aload_n 0 dX6_readSum_20 rfl rfl ?_
    obtain ⟨c21, h21, e21, E⟩ := qbn_el E
    refine qt_callVi (b2 := 0) [] (c_X6_signCode h e21) cv_RX6_99 (wl_21 h) rfl rfl rfl (Nat.le_of_ble_eq_true rfl) (Nat.le_of_ble_eq_true rfl) dX6_readSum_21 ?_
    refine qt_istore_n (fun v24 => [(3, .int v24), (0, .ref (g.1 + 21)), (1, .int x1), (2, .int x2)]) dX6_readSum_24 rfl (Nat.le_of_ble_eq_true rfl) (fun _ => rfl) E (fun v24 E => ?_)
    refine qt_iload_n 0 dX6_readSum_25 rfl rfl ?_
    refine qt_bipush dX6_readSum_26 cb_m11 ?_
    refine qt_icmp_gt 110 dX6_readSum_28 (by decide) E (fun E => ?_) (fun E => ?_)
    · obtain ⟨z0_, E, G⟩ := qup_g E G
      exact qt_sub _ [1, 2] rfl ((s_X6_readSum_b110 x1 h21 E G))
    · refine qt_iload_n 0 dX6_readSum_31 rfl rfl ?_
      refine qt_bipush dX6_readSum_32 cb_m14 ?_
      refine qt_icmp_ge 40 dX6_readSum_34 (by decide) E (fun E => ?_) (fun E => ?_)
      · refine qt_iload_n 0 dX6_readSum_40 rfl rfl ?_
        refine qt_bipush dX6_readSum_41 cb_m12 ?_
        refine qt_icmp_lt 50 dX6_readSum_43 (by decide) E (fun E => ?_) (fun E => ?_)
        · refine qt_iconst dX6_readSum_50 ci_0 ?_
          exact qt_sub _ [1, 2, 3, 0] rfl ((s_X6_readSum_b51 x1 x2 v24 (0 : Int32) h21 E G))
        · refine qt_iconst dX6_readSum_46 ci_1 ?_
          refine qt_goto 51 dX6_readSum_47 (by decide) ?_
          exact qt_sub _ [1, 2, 3, 0] rfl ((s_X6_readSum_b51 x1 x2 v24 (1 : Int32) h21 E G))
      · obtain ⟨z0_, E, G⟩ := qup_g E G
        exact qt_sub _ [1, 2] rfl ((s_X6_readSum_b37 x1 h21 E G))
noncomputable def f_X6_readSum_b13_loop (x1 : Int32) (x2 : Int32) (h : qa_M) : Option (Int32 × qa_M) := qlp (fun sz : Int32 × Int32 × qa_M => f_X6_readSum_b13 sz.1 sz.2.1 sz.2.2) (x1, x2, h)
theorem s_X6_readSum_b13_loop {l : Launch} {g : qa_G} {d : Nat} {rz : Option Value} {hz : qa_M} (x1 : Int32) (x2 : Int32) (h : qa_M) {z : (Int32 × qa_M)} (E : f_X6_readSum_b13_loop x1 x2 h = some z) (G : (qg_i rz hz) z) : qt_At l g (yX6_readSum, cX6_readSum, 5, (some .boolean)) (d + 6) 0 0 13 [(0, .ref (g.1 + 21)), (1, .int x1), (2, .int x2)] [] h rz hz :=
  qlp_ind (fun sz : Int32 × Int32 × qa_M => qt_At l g (yX6_readSum, cX6_readSum, 5, (some .boolean)) (d + 6) 0 0 13 [(0, .ref (g.1 + 21)), (1, .int sz.1), (2, .int sz.2.1)] [] sz.2.2 rz hz) (fun sz E => s_X6_readSum_b13 sz.1 sz.2.1 sz.2.2 E G) (fun sz sz2 E ih => s_X6_readSum_b13 sz.1 sz.2.1 sz.2.2 E ih) (x1, x2, h) E
noncomputable def m_X6_readSum (h : qa_M) : Option (Int32 × qa_M) :=
  qbd (0 : Int32) (fun v1 : Int32 =>
  qbn (m_X6_readValue h) (fun (c3 : Int32) (h3 : qa_M) =>
  if c3 = 0 then (
   some ((0 : Int32), h3))
  else (
   qbd (0 : Int32) (fun v12 : Int32 =>
   f_X6_readSum_b13_loop v1 v12 h3))))
set_option maxRecDepth 20000 in
theorem c_X6_readSum {l : Launch} {g : qa_G} {d : Nat} (h : qa_M) {c : Int32} {h1 : qa_M} (E : m_X6_readSum h = some (c, h1)) : qt_Met l g (yX6_readSum, cX6_readSum, 5, (some .boolean)) (d + 6) 0 [.ref (g.1 + 21)] h (some (.int c)) h1 := by
  refine qt_Met.of (plainFor_of_name (by decide)) (Nat.le_of_ble_eq_true rfl) ?_
  have G : qg_i (some (.int c)) h1 ((c, h1)) := ⟨rfl, rfl⟩
  unfold m_X6_readSum at E
  refine qt_iconst dX6_readSum_0 ci_0 ?_
  refine qt_istore_n (fun v1 => [(1, .int v1), (0, .ref (g.1 + 21))]) dX6_readSum_1 rfl (Nat.le_of_ble_eq_true rfl) (fun _ => rfl) E (fun v1 E => ?_)
  refine qt_aload_n 1 dX6_readSum_2 rfl rfl ?_
  obtain ⟨c3, h3, e3, E⟩ := qbn_el E
  refine qt_callVi (b2 := 0) [] (c_X6_readValue h e3) cv_RX6_109 (wl_21 h) rfl rfl rfl (Nat.le_of_ble_eq_true rfl) (Nat.le_of_ble_eq_true rfl) dX6_readSum_3 ?_
  refine qt_if_ne 11 dX6_readSum_6 (by decide) E (fun E => ?_) (fun E => ?_)
  · refine qt_iconst dX6_readSum_11 ci_0 ?_
    refine qt_istore_n (fun v12 => [(2, .int v12), (1, .int v1), (0, .ref (g.1 + 21))]) dX6_readSum_12 rfl (Nat.le_of_ble_eq_true rfl) (fun _ => rfl) E (fun v12 E => ?_)
    exact qt_sub _ [2, 1, 0] rfl ((s_X6_readSum_b13_loop v1 v12 h3 E G))
  · refine qt_iconst dX6_readSum_9 ci_0 ?_
    exact qt_zreturn rfl (Or.inl rfl) (Nat.le_of_ble_eq_true rfl) dX6_readSum_10 E G
noncomputable def f_X6_readComparison_b17 (h : qa_M) : Option (Int32 × qa_M) :=
  qbn (m_X9_fail (0 : Int32) h) (fun (c22 : Int32) (h22 : qa_M) =>
  qpr (c22 = 0 ∨ c22 = 1) (
  some (c22, h22)))
set_option maxRecDepth 20000 in
theorem s_X6_readComparison_b17 {l : Launch} {g : qa_G} {d : Nat} {rz : Option Value} {hz : qa_M} (h : qa_M) {z : (Int32 × qa_M)} (E : f_X6_readComparison_b17 h = some z) (G : (qg_i rz hz) z) : qt_At l g (yX6_readComparison, cX6_readComparison, 2, (some .boolean)) (d + 2) 0 0 17 [(0, .ref (g.1 + 21))] [] h rz hz := by
  unfold f_X6_readComparison_b17 at E
  refine qt_aload_n 0 dX6_readComparison_17 rfl rfl ?_
  refine qt_getS 1 (wl_21 h) fe_RX6_9 rfl dX6_readComparison_18 ?_
  refine qt_iconst dX6_readComparison_21 ci_0 ?_
  obtain ⟨c22, h22, e22, E⟩ := qbn_el E
  refine qt_callVi (b2 := 0) [.int (0 : Int32)] (c_X9_fail (0 : Int32) h e22) cv_RX6_39 (wl_1 h) rfl rfl rfl (Nat.le_of_ble_eq_true rfl) (Nat.le_of_ble_eq_true rfl) dX6_readComparison_22 ?_
  obtain ⟨z25, E⟩ := qpr_el E
  exact qt_zreturn rfl z25 (Nat.le_of_ble_eq_true rfl) dX6_readComparison_25 E G
noncomputable def m_X6_readComparison (h : qa_M) : Option (Int32 × qa_M) :=
  qbn (m_X6_signCode h) (fun (c1 : Int32) (h1 : qa_M) =>
  qbd c1 (fun v4 : Int32 =>
  if (-15 : Int32) < v4 then (
   f_X6_readComparison_b17 h1)
  else (
   if (-19 : Int32) ≤ v4 then (
    qbn (m_X6_isRoomForPart h1) (fun (c27 : Int32) (h27 : qa_M) =>
    if c27 = 0 then (
     some ((0 : Int32), h27))
    else (
     qbd (qw_I h27 21 3 v4) (fun h37 : qa_M =>
     qbv (m_X9_scan h37) (fun h44 : qa_M =>
     some ((1 : Int32), h44))))))
   else (
    f_X6_readComparison_b17 h1))))
set_option maxRecDepth 20000 in
theorem c_X6_readComparison {l : Launch} {g : qa_G} {d : Nat} (h : qa_M) {c : Int32} {h1 : qa_M} (E : m_X6_readComparison h = some (c, h1)) : qt_Met l g (yX6_readComparison, cX6_readComparison, 2, (some .boolean)) (d + 2) 0 [.ref (g.1 + 21)] h (some (.int c)) h1 := by
  refine qt_Met.of (plainFor_of_name (by decide)) (Nat.le_of_ble_eq_true rfl) ?_
  have G : qg_i (some (.int c)) h1 ((c, h1)) := ⟨rfl, rfl⟩
  unfold m_X6_readComparison at E
  refine qt_aload_n 0 dX6_readComparison_0 rfl rfl ?_
  obtain ⟨c1, h1, e1, E⟩ := qbn_el E
  refine qt_callVi (b2 := 0) [] (c_X6_signCode h e1) cv_RX6_99 (wl_21 h) rfl rfl rfl (Nat.le_of_ble_eq_true rfl) (Nat.le_of_ble_eq_true rfl) dX6_readComparison_1 ?_
  refine qt_istore_n (fun v4 => [(1, .int v4), (0, .ref (g.1 + 21))]) dX6_readComparison_4 rfl (Nat.le_of_ble_eq_true rfl) (fun _ => rfl) E (fun v4 E => ?_)
  refine qt_iload_n 0 dX6_readComparison_5 rfl rfl ?_
  refine qt_bipush dX6_readComparison_6 cb_m15 ?_
  refine qt_icmp_gt 17 dX6_readComparison_8 (by decide) E (fun E => ?_) (fun E => ?_)
  · exact qt_sub _ [1] rfl ((s_X6_readComparison_b17 h1 E G))
  · refine qt_iload_n 0 dX6_readComparison_11 rfl rfl ?_
    refine qt_bipush dX6_readComparison_12 cb_m19 ?_
    refine qt_icmp_ge 26 dX6_readComparison_14 (by decide) E (fun E => ?_) (fun E => ?_)
    · refine qt_aload_n 1 dX6_readComparison_26 rfl rfl ?_
      obtain ⟨c27, h27, e27, E⟩ := qbn_el E
      refine qt_callVi (b2 := 0) [] (c_X6_isRoomForPart h1 e27) cv_RX6_103 (wl_21 h1) rfl rfl rfl (Nat.le_of_ble_eq_true rfl) (Nat.le_of_ble_eq_true rfl) dX6_readComparison_27 ?_
      refine qt_if_ne 35 dX6_readComparison_30 (by decide) E (fun E => ?_) (fun E => ?_)
      · refine qt_aload_n 1 dX6_readComparison_35 rfl rfl ?_
        refine qt_iload_n 0 dX6_readComparison_36 rfl rfl ?_
        refine qt_putI (wl_21 h27) fd_RX6_106 rfl rfl rfl dX6_readComparison_37 E (fun h37 E => ?_)
        refine qt_aload_n 1 dX6_readComparison_40 rfl rfl ?_
        refine qt_getS 1 (wl_21 h37) fe_RX6_9 rfl dX6_readComparison_41 ?_
        obtain ⟨h44, e44, E⟩ := qbv_el E
        refine qt_callVv (b2 := 0) [] (c_X9_scan h37 e44) cv_RX6_46 (wl_1 h37) rfl rfl rfl (Nat.le_of_ble_eq_true rfl) (Nat.le_of_ble_eq_true rfl) dX6_readComparison_44 ?_
        refine qt_iconst dX6_readComparison_47 ci_1 ?_
        exact qt_zreturn rfl (Or.inr rfl) (Nat.le_of_ble_eq_true rfl) dX6_readComparison_48 E G
      · refine qt_iconst dX6_readComparison_33 ci_0 ?_
        exact qt_zreturn rfl (Or.inl rfl) (Nat.le_of_ble_eq_true rfl) dX6_readComparison_34 E G
    · exact qt_sub _ [1] rfl ((s_X6_readComparison_b17 h1 E G))
noncomputable def m_X6_endComparison (h : qa_M) : Option (Int32 × qa_M) :=
  qnn (h.2.2.1 21 1) (fun a1 =>
  qpr (a1 = 83 ∨ a1 = 92 ∨ a1 = 101 ∨ a1 = 110) (
  qbv (m_X5_emit a1 (h.1 21 3) h) (fun h8 : qa_M =>
  some ((1 : Int32), h8))))
set_option maxRecDepth 20000 in
theorem c_X6_endComparison {l : Launch} {g : qa_G} {d : Nat} (h : qa_M) {c : Int32} {h1 : qa_M} (E : m_X6_endComparison h = some (c, h1)) : qt_Met l g (yX6_endComparison, cX6_endComparison, 1, (some .boolean)) (d + 1) 0 [.ref (g.1 + 21)] h (some (.int c)) h1 := by
  refine qt_Met.of (plainFor_of_name (by decide)) (Nat.le_of_ble_eq_true rfl) ?_
  have G : qg_i (some (.int c)) h1 ((c, h1)) := ⟨rfl, rfl⟩
  unfold m_X6_endComparison at E
  refine qt_aload_n 0 dX6_endComparison_0 rfl rfl ?_
  refine qt_getR (wl_21 h) fe_RX6_15 rfl dX6_endComparison_1 ?_
  obtain ⟨a1, q1, E⟩ := qnn_el E
  refine qt_nn q1 ?_
  obtain ⟨p1, E⟩ := qpr_el E
  refine qt_aload_n 0 dX6_endComparison_4 rfl rfl ?_
  refine qt_getI (wl_21 h) fe_RX6_106 rfl dX6_endComparison_5 ?_
  obtain ⟨h8, e8, E⟩ := qbv_el E
  refine qt_callVv (b2 := 0) [.int (h.1 21 3)] (c_X5_emit a1 (h.1 21 3) h p1 e8) cv_RX6_85 (wl_Law_0 p1 h) rfl rfl rfl (Nat.le_of_ble_eq_true rfl) (Nat.le_of_ble_eq_true rfl) dX6_endComparison_8 ?_
  refine qt_iconst dX6_endComparison_11 ci_1 ?_
  exact qt_zreturn rfl (Or.inr rfl) (Nat.le_of_ble_eq_true rfl) dX6_endComparison_12 E G
noncomputable def f_X6_readFact_b68 (F : Bool → Int32 → qa_M → Option (Int32 × qa_M)) (x1 : Int32) (x2 : Int32) (h : qa_M) : Option (Int32 × qa_M) :=
  if x1 < (10 : Int32) then (
   qbv (m_X9_scan h) (fun h87 : qa_M =>
   if x2 = 0 then (
    qbn (F true (x1 + (1 : Int32)) h87) (fun (c121 : Int32) (h121 : qa_M) =>
    if c121 = 0 then (
     some ((0 : Int32), h121))
    else (
     qbn (m_X9_isSign (93 : Int32) h121) (fun (c135 : Int32) (h135 : qa_M) =>
     if c135 = 0 then (
      qbn (m_X9_fail (0 : Int32) h135) (fun (c146 : Int32) (h146 : qa_M) =>
      qpr (c146 = 0 ∨ c146 = 1) (
      some (c146, h146))))
     else (
      qbv (m_X9_scan h135) (fun h154 : qa_M =>
      some ((1 : Int32), h154)))))))
   else (
    qbn (F false (x1 + (1 : Int32)) h87) (fun (c98 : Int32) (h98 : qa_M) =>
    if c98 = 0 then (
     some ((0 : Int32), h98))
    else (
     qnn (h98.2.2.1 21 1) (fun a107 =>
     qpr (a107 = 83 ∨ a107 = 92 ∨ a107 = 101 ∨ a107 = 110) (
     qbv (m_X5_emit a107 (-22 : Int32) h98) (fun h112 : qa_M =>
     some ((1 : Int32), h112)))))))))
  else (
   qbn (m_X9_fail (2 : Int32) h) (fun (c79 : Int32) (h79 : qa_M) =>
   qpr (c79 = 0 ∨ c79 = 1) (
   some (c79, h79))))
set_option maxRecDepth 20000 in
theorem s_X6_readFact_b68 {l : Launch} {g : qa_G} {d : Nat} {rz : Option Value} {hz : qa_M} (F : Bool → Int32 → qa_M → Option (Int32 × qa_M)) (HF : ∀ (bb : Bool) (x : Int32) (h : qa_M) (c : Int32) (h1 : qa_M), F bb x h = some (c, h1) → qt_Met l g (if bb then (yX6_readTest, cX6_readTest, 5, some .boolean) else (yX6_readFact, cX6_readFact, 3, some .boolean)) (d + 6) 0 [.ref (g.1 + 21), .int x] h (some (.int c)) h1) (x1 : Int32) (x2 : Int32) (h : qa_M) {z : (Int32 × qa_M)} (E : f_X6_readFact_b68 F x1 x2 h = some z) (G : (qg_i rz hz) z) : qt_At l g (yX6_readFact, cX6_readFact, 3, (some .boolean)) (d + 7) 0 0 68 [(0, .ref (g.1 + 21)), (1, .int x1), (2, .int x2)] [] h rz hz := by
  unfold f_X6_readFact_b68 at E
  refine qt_iload_n 1 dX6_readFact_68 rfl rfl ?_
  refine qt_bipush dX6_readFact_69 cb_10 ?_
  refine qt_icmp_lt 83 dX6_readFact_71 (by decide) E (fun E => ?_) (fun E => ?_)
  · refine qt_aload_n 0 dX6_readFact_83 rfl rfl ?_
    refine qt_getS 1 (wl_21 h) fe_RX6_9 rfl dX6_readFact_84 ?_
    obtain ⟨h87, e87, E⟩ := qbv_el E
    refine qt_callVv (b2 := 0) [] (c_X9_scan h e87) cv_RX6_46 (wl_1 h) rfl rfl rfl (Nat.le_of_ble_eq_true rfl) (Nat.le_of_ble_eq_true rfl) dX6_readFact_87 ?_
    refine qt_iload_n 2 dX6_readFact_90 rfl rfl ?_
    refine qt_if_eq 117 dX6_readFact_91 (by decide) E (fun E => ?_) (fun E => ?_)
    · refine qt_aload_n 0 dX6_readFact_117 rfl rfl ?_
      refine qt_iload_n 1 dX6_readFact_118 rfl rfl ?_
      refine qt_iconst dX6_readFact_119 ci_1 ?_
      refine qt_iadd dX6_readFact_120 ?_
      obtain ⟨c121, h121, e121, E⟩ := qbn_el E
      refine qt_callVi (b2 := 0) [.int (x1 + (1 : Int32))] (HF true (x1 + (1 : Int32)) h87 _ _ e121) cv_RX6_56 (wl_21 h87) rfl rfl rfl (Nat.le_of_ble_eq_true rfl) (Nat.le_of_ble_eq_true rfl) dX6_readFact_121 ?_
      refine qt_if_ne 129 dX6_readFact_124 (by decide) E (fun E => ?_) (fun E => ?_)
      · refine qt_aload_n 0 dX6_readFact_129 rfl rfl ?_
        refine qt_getS 1 (wl_21 h121) fe_RX6_9 rfl dX6_readFact_130 ?_
        refine qt_bipush dX6_readFact_133 cb_93 ?_
        obtain ⟨c135, h135, e135, E⟩ := qbn_el E
        refine qt_callVi (b2 := 0) [.int (93 : Int32)] (c_X9_isSign (93 : Int32) h121 e135) cv_RX6_62 (wl_1 h121) rfl rfl rfl (Nat.le_of_ble_eq_true rfl) (Nat.le_of_ble_eq_true rfl) dX6_readFact_135 ?_
        refine qt_if_ne 150 dX6_readFact_138 (by decide) E (fun E => ?_) (fun E => ?_)
        · refine qt_aload_n 0 dX6_readFact_150 rfl rfl ?_
          refine qt_getS 1 (wl_21 h135) fe_RX6_9 rfl dX6_readFact_151 ?_
          obtain ⟨h154, e154, E⟩ := qbv_el E
          refine qt_callVv (b2 := 0) [] (c_X9_scan h135 e154) cv_RX6_46 (wl_1 h135) rfl rfl rfl (Nat.le_of_ble_eq_true rfl) (Nat.le_of_ble_eq_true rfl) dX6_readFact_154 ?_
          refine qt_iconst dX6_readFact_157 ci_1 ?_
          exact qt_zreturn rfl (Or.inr rfl) (Nat.le_of_ble_eq_true rfl) dX6_readFact_158 E G
        · refine qt_aload_n 0 dX6_readFact_141 rfl rfl ?_
          refine qt_getS 1 (wl_21 h135) fe_RX6_9 rfl dX6_readFact_142 ?_
          refine qt_iconst dX6_readFact_145 ci_0 ?_
          obtain ⟨c146, h146, e146, E⟩ := qbn_el E
          refine qt_callVi (b2 := 0) [.int (0 : Int32)] (c_X9_fail (0 : Int32) h135 e146) cv_RX6_39 (wl_1 h135) rfl rfl rfl (Nat.le_of_ble_eq_true rfl) (Nat.le_of_ble_eq_true rfl) dX6_readFact_146 ?_
          obtain ⟨z149, E⟩ := qpr_el E
          exact qt_zreturn rfl z149 (Nat.le_of_ble_eq_true rfl) dX6_readFact_149 E G
      · refine qt_iconst dX6_readFact_127 ci_0 ?_
        exact qt_zreturn rfl (Or.inl rfl) (Nat.le_of_ble_eq_true rfl) dX6_readFact_128 E G
    · refine qt_aload_n 0 dX6_readFact_94 rfl rfl ?_
      refine qt_iload_n 1 dX6_readFact_95 rfl rfl ?_
      refine qt_iconst dX6_readFact_96 ci_1 ?_
      refine qt_iadd dX6_readFact_97 ?_
      obtain ⟨c98, h98, e98, E⟩ := qbn_el E
      refine qt_callVi (b2 := 0) [.int (x1 + (1 : Int32))] (HF false (x1 + (1 : Int32)) h87 _ _ e98) cv_RX6_80 (wl_21 h87) rfl rfl rfl (Nat.le_of_ble_eq_true rfl) (Nat.le_of_ble_eq_true rfl) dX6_readFact_98 ?_
      refine qt_if_ne 106 dX6_readFact_101 (by decide) E (fun E => ?_) (fun E => ?_)
      · refine qt_aload_n 0 dX6_readFact_106 rfl rfl ?_
        refine qt_getR (wl_21 h98) fe_RX6_15 rfl dX6_readFact_107 ?_
        obtain ⟨a107, q107, E⟩ := qnn_el E
        refine qt_nn q107 ?_
        obtain ⟨p107, E⟩ := qpr_el E
        refine qt_bipush dX6_readFact_110 cb_m22 ?_
        obtain ⟨h112, e112, E⟩ := qbv_el E
        refine qt_callVv (b2 := 0) [.int (-22 : Int32)] (c_X5_emit a107 (-22 : Int32) h98 p107 e112) cv_RX6_85 (wl_Law_0 p107 h98) rfl rfl rfl (Nat.le_of_ble_eq_true rfl) (Nat.le_of_ble_eq_true rfl) dX6_readFact_112 ?_
        refine qt_iconst dX6_readFact_115 ci_1 ?_
        exact qt_zreturn rfl (Or.inr rfl) (Nat.le_of_ble_eq_true rfl) dX6_readFact_116 E G
      · refine qt_iconst dX6_readFact_104 ci_0 ?_
        exact qt_zreturn rfl (Or.inl rfl) (Nat.le_of_ble_eq_true rfl) dX6_readFact_105 E G
  · refine qt_aload_n 0 dX6_readFact_74 rfl rfl ?_
    refine qt_getS 1 (wl_21 h) fe_RX6_9 rfl dX6_readFact_75 ?_
    refine qt_iconst dX6_readFact_78 ci_2 ?_
    obtain ⟨c79, h79, e79, E⟩ := qbn_el E
    refine qt_callVi (b2 := 0) [.int (2 : Int32)] (c_X9_fail (2 : Int32) h e79) cv_RX6_39 (wl_1 h) rfl rfl rfl (Nat.le_of_ble_eq_true rfl) (Nat.le_of_ble_eq_true rfl) dX6_readFact_79 ?_
    obtain ⟨z82, E⟩ := qpr_el E
    exact qt_zreturn rfl z82 (Nat.le_of_ble_eq_true rfl) dX6_readFact_82 E G
noncomputable def f_X6_readFact_b17 (F : Bool → Int32 → qa_M → Option (Int32 × qa_M)) (x1 : Int32) (s0 : Int32) (h : qa_M) : Option (Int32 × qa_M) :=
  qbd s0 (fun v17 : Int32 =>
  if v17 = 0 then (
   qbn (m_X9_isSign (91 : Int32) h) (fun (c28 : Int32) (h28 : qa_M) =>
   if c28 = 0 then (
    qbn (m_X6_readSum h28) (fun (c35 : Int32) (h35 : qa_M) =>
    if c35 = 0 then (
     some ((0 : Int32), h35))
    else (
     qbn (m_X6_readComparison h35) (fun (c42 : Int32) (h42 : qa_M) =>
     if c42 = 0 then (
      some ((0 : Int32), h42))
     else (
      qbn (m_X6_readSum h42) (fun (c49 : Int32) (h49 : qa_M) =>
      if c49 = 0 then (
       some ((0 : Int32), h49))
      else (
       qbn (m_X6_endComparison h49) (fun (c56 : Int32) (h56 : qa_M) =>
       if c56 = 0 then (
        some ((0 : Int32), h56))
       else (
        some ((1 : Int32), h56))))))))))
   else (
    f_X6_readFact_b68 F x1 v17 h28)))
  else (
   f_X6_readFact_b68 F x1 v17 h))
set_option maxRecDepth 20000 in
theorem s_X6_readFact_b17 {l : Launch} {g : qa_G} {d : Nat} {rz : Option Value} {hz : qa_M} (F : Bool → Int32 → qa_M → Option (Int32 × qa_M)) (HF : ∀ (bb : Bool) (x : Int32) (h : qa_M) (c : Int32) (h1 : qa_M), F bb x h = some (c, h1) → qt_Met l g (if bb then (yX6_readTest, cX6_readTest, 5, some .boolean) else (yX6_readFact, cX6_readFact, 3, some .boolean)) (d + 6) 0 [.ref (g.1 + 21), .int x] h (some (.int c)) h1) (x1 : Int32) (s0 : Int32) (h : qa_M) {z : (Int32 × qa_M)} (E : f_X6_readFact_b17 F x1 s0 h = some z) (G : (qg_i rz hz) z) : qt_At l g (yX6_readFact, cX6_readFact, 3, (some .boolean)) (d + 7) 0 0 17 [(0, .ref (g.1 + 21)), (1, .int x1)] [.int s0] h rz hz := by
  unfold f_X6_readFact_b17 at E
  refine qt_istore_n (fun v17 => [(2, .int v17), (0, .ref (g.1 + 21)), (1, .int x1)]) dX6_readFact_17 rfl (Nat.le_of_ble_eq_true rfl) (fun _ => rfl) E (fun v17 E => ?_)
  refine qt_iload_n 0 dX6_readFact_18 rfl rfl ?_
  refine qt_if_ne 68 dX6_readFact_19 (by decide) E (fun E => ?_) (fun E => ?_)
  · exact qt_sub _ [1, 2, 0] rfl ((s_X6_readFact_b68 F HF x1 v17 h E G))
  · refine qt_aload_n 1 dX6_readFact_22 rfl rfl ?_
    refine qt_getS 1 (wl_21 h) fe_RX6_9 rfl dX6_readFact_23 ?_
    refine qt_bipush dX6_readFact_26 cb_91 ?_
    obtain ⟨c28, h28, e28, E⟩ := qbn_el E
    refine qt_callVi (b2 := 0) [.int (91 : Int32)] (c_X9_isSign (91 : Int32) h e28) cv_RX6_62 (wl_1 h) rfl rfl rfl (Nat.le_of_ble_eq_true rfl) (Nat.le_of_ble_eq_true rfl) dX6_readFact_28 ?_
    refine qt_if_ne 68 dX6_readFact_31 (by decide) E (fun E => ?_) (fun E => ?_)
    · exact qt_sub _ [1, 2, 0] rfl ((s_X6_readFact_b68 F HF x1 v17 h28 E G))
    · refine qt_aload_n 1 dX6_readFact_34 rfl rfl ?_
      obtain ⟨c35, h35, e35, E⟩ := qbn_el E
      refine qt_callVi (b2 := 0) [] (c_X6_readSum h28 e35) cv_RX6_90 (wl_21 h28) rfl rfl rfl (Nat.le_of_ble_eq_true rfl) (Nat.le_of_ble_eq_true rfl) dX6_readFact_35 ?_
      refine qt_if_eq 66 dX6_readFact_38 (by decide) E (fun E => ?_) (fun E => ?_)
      · refine qt_iconst dX6_readFact_66 ci_0 ?_
        exact qt_zreturn rfl (Or.inl rfl) (Nat.le_of_ble_eq_true rfl) dX6_readFact_67 E G
      · refine qt_aload_n 1 dX6_readFact_41 rfl rfl ?_
        obtain ⟨c42, h42, e42, E⟩ := qbn_el E
        refine qt_callVi (b2 := 0) [] (c_X6_readComparison h35 e42) cv_RX6_93 (wl_21 h35) rfl rfl rfl (Nat.le_of_ble_eq_true rfl) (Nat.le_of_ble_eq_true rfl) dX6_readFact_42 ?_
        refine qt_if_eq 66 dX6_readFact_45 (by decide) E (fun E => ?_) (fun E => ?_)
        · refine qt_iconst dX6_readFact_66 ci_0 ?_
          exact qt_zreturn rfl (Or.inl rfl) (Nat.le_of_ble_eq_true rfl) dX6_readFact_67 E G
        · refine qt_aload_n 1 dX6_readFact_48 rfl rfl ?_
          obtain ⟨c49, h49, e49, E⟩ := qbn_el E
          refine qt_callVi (b2 := 0) [] (c_X6_readSum h42 e49) cv_RX6_90 (wl_21 h42) rfl rfl rfl (Nat.le_of_ble_eq_true rfl) (Nat.le_of_ble_eq_true rfl) dX6_readFact_49 ?_
          refine qt_if_eq 66 dX6_readFact_52 (by decide) E (fun E => ?_) (fun E => ?_)
          · refine qt_iconst dX6_readFact_66 ci_0 ?_
            exact qt_zreturn rfl (Or.inl rfl) (Nat.le_of_ble_eq_true rfl) dX6_readFact_67 E G
          · refine qt_aload_n 1 dX6_readFact_55 rfl rfl ?_
            obtain ⟨c56, h56, e56, E⟩ := qbn_el E
            refine qt_callVi (b2 := 0) [] (c_X6_endComparison h49 e56) cv_RX6_96 (wl_21 h49) rfl rfl rfl (Nat.le_of_ble_eq_true rfl) (Nat.le_of_ble_eq_true rfl) dX6_readFact_56 ?_
            refine qt_if_eq 66 dX6_readFact_59 (by decide) E (fun E => ?_) (fun E => ?_)
            · refine qt_iconst dX6_readFact_66 ci_0 ?_
              exact qt_zreturn rfl (Or.inl rfl) (Nat.le_of_ble_eq_true rfl) dX6_readFact_67 E G
            · refine qt_iconst dX6_readFact_62 ci_1 ?_
              refine qt_goto 67 dX6_readFact_63 (by decide) ?_
              exact qt_zreturn rfl (Or.inr rfl) (Nat.le_of_ble_eq_true rfl) dX6_readFact_67 E G
noncomputable def m_X6_readFact_F (F : Bool → Int32 → qa_M → Option (Int32 × qa_M)) (x1 : Int32) (h : qa_M) : Option (Int32 × qa_M) :=
  qbn (m_X9_among 2 h) (fun (c6 : Int32) (h6 : qa_M) =>
  if c6 = 0 then (
   f_X6_readFact_b17 F x1 (1 : Int32) h6)
  else (
   f_X6_readFact_b17 F x1 (0 : Int32) h6))
set_option maxRecDepth 20000 in
theorem c_X6_readFact_F {l : Launch} {g : qa_G} {d : Nat} (F : Bool → Int32 → qa_M → Option (Int32 × qa_M)) (x1 : Int32) (h : qa_M) (HF : ∀ (bb : Bool) (x : Int32) (h : qa_M) (c : Int32) (h1 : qa_M), F bb x h = some (c, h1) → qt_Met l g (if bb then (yX6_readTest, cX6_readTest, 5, some .boolean) else (yX6_readFact, cX6_readFact, 3, some .boolean)) (d + 6) 0 [.ref (g.1 + 21), .int x] h (some (.int c)) h1) {c : Int32} {h1 : qa_M} (E : m_X6_readFact_F F x1 h = some (c, h1)) : qt_Met l g (yX6_readFact, cX6_readFact, 3, (some .boolean)) (d + 7) 0 [.ref (g.1 + 21), .int x1] h (some (.int c)) h1 := by
  refine qt_Met.of (plainFor_of_name (by decide)) (Nat.le_of_ble_eq_true rfl) ?_
  have G : qg_i (some (.int c)) h1 ((c, h1)) := ⟨rfl, rfl⟩
  unfold m_X6_readFact_F at E
  refine qt_aload_n 0 dX6_readFact_0 rfl rfl ?_
  refine qt_getS 1 (wl_21 h) fe_RX6_9 rfl dX6_readFact_1 ?_
  refine qt_ldcS sr_RX6_88 dX6_readFact_4 ?_
  obtain ⟨c6, h6, e6, E⟩ := qbn_el E
  refine qt_callVi (b2 := 0) [.ref (g.2.2.2.1 2)] (c_X9_among 2 h (by decide) e6) cv_RX6_35 (wl_1 h) rfl rfl rfl (Nat.le_of_ble_eq_true rfl) (Nat.le_of_ble_eq_true rfl) dX6_readFact_6 ?_
  refine qt_if_ne 16 dX6_readFact_9 (by decide) E (fun E => ?_) (fun E => ?_)
  · refine qt_iconst dX6_readFact_16 ci_0 ?_
    exact qt_sub _ [0, 1] rfl ((s_X6_readFact_b17 F HF x1 (0 : Int32) h6 E G))
  · refine qt_iconst dX6_readFact_12 ci_1 ?_
    refine qt_goto 17 dX6_readFact_13 (by decide) ?_
    exact qt_sub _ [0, 1] rfl ((s_X6_readFact_b17 F HF x1 (1 : Int32) h6 E G))
noncomputable def f_X6_readTest_b113 (F : Bool → Int32 → qa_M → Option (Int32 × qa_M)) (x2 : Int32) (h : qa_M) : Option (Int32 × qa_M) :=
  if x2 = 0 then (
   some ((1 : Int32), h))
  else (
   qnn (h.2.2.1 21 1) (fun a118 =>
   qpr (a118 = 83 ∨ a118 = 92 ∨ a118 = 101 ∨ a118 = 110) (
   qbv (m_X5_emit a118 (-21 : Int32) h) (fun h123 : qa_M =>
   some ((1 : Int32), h123)))))
set_option maxRecDepth 20000 in
theorem s_X6_readTest_b113 {l : Launch} {g : qa_G} {d : Nat} {rz : Option Value} {hz : qa_M} (F : Bool → Int32 → qa_M → Option (Int32 × qa_M)) (HF : ∀ (bb : Bool) (x : Int32) (h : qa_M) (c : Int32) (h1 : qa_M), F bb x h = some (c, h1) → qt_Met l g (if bb then (yX6_readTest, cX6_readTest, 5, some .boolean) else (yX6_readFact, cX6_readFact, 3, some .boolean)) (d + 6) 0 [.ref (g.1 + 21), .int x] h (some (.int c)) h1) (x2 : Int32) (h : qa_M) {z : (Int32 × qa_M)} (E : f_X6_readTest_b113 F x2 h = some z) (G : (qg_i rz hz) z) : qt_At l g (yX6_readTest, cX6_readTest, 5, (some .boolean)) (d + 7) 0 0 113 [(0, .ref (g.1 + 21)), (2, .int x2)] [] h rz hz := by
  unfold f_X6_readTest_b113 at E
  refine qt_iload_n 1 dX6_readTest_113 rfl rfl ?_
  refine qt_if_eq 126 dX6_readTest_114 (by decide) E (fun E => ?_) (fun E => ?_)
  · refine qt_iconst dX6_readTest_126 ci_1 ?_
    exact qt_zreturn rfl (Or.inr rfl) (Nat.le_of_ble_eq_true rfl) dX6_readTest_127 E G
  · refine qt_aload_n 0 dX6_readTest_117 rfl rfl ?_
    refine qt_getR (wl_21 h) fe_RX6_15 rfl dX6_readTest_118 ?_
    obtain ⟨a118, q118, E⟩ := qnn_el E
    refine qt_nn q118 ?_
    obtain ⟨p118, E⟩ := qpr_el E
    refine qt_bipush dX6_readTest_121 cb_m21 ?_
    obtain ⟨h123, e123, E⟩ := qbv_el E
    refine qt_callVv (b2 := 0) [.int (-21 : Int32)] (c_X5_emit a118 (-21 : Int32) h p118 e123) cv_RX6_85 (wl_Law_0 p118 h) rfl rfl rfl (Nat.le_of_ble_eq_true rfl) (Nat.le_of_ble_eq_true rfl) dX6_readTest_123 ?_
    refine qt_iconst dX6_readTest_126 ci_1 ?_
    exact qt_zreturn rfl (Or.inr rfl) (Nat.le_of_ble_eq_true rfl) dX6_readTest_127 E G
noncomputable def f_X6_readTest_b107 (F : Bool → Int32 → qa_M → Option (Int32 × qa_M)) (x1 : Int32) (x2 : Int32) (x3 : Int32) (h : qa_M) : Option ((Int32 × Int32 × Int32 × qa_M) ⊕ (Int32 × qa_M)) :=
  qbd (x3 + (1 : Int32)) (fun v107 : Int32 =>
  some (.inl (x1, x2, v107, h)))
set_option maxRecDepth 20000 in
theorem s_X6_readTest_b107 {l : Launch} {g : qa_G} {d : Nat} {rz : Option Value} {hz : qa_M} (F : Bool → Int32 → qa_M → Option (Int32 × qa_M)) (HF : ∀ (bb : Bool) (x : Int32) (h : qa_M) (c : Int32) (h1 : qa_M), F bb x h = some (c, h1) → qt_Met l g (if bb then (yX6_readTest, cX6_readTest, 5, some .boolean) else (yX6_readFact, cX6_readFact, 3, some .boolean)) (d + 6) 0 [.ref (g.1 + 21), .int x] h (some (.int c)) h1) (x1 : Int32) (x2 : Int32) (x3 : Int32) (h : qa_M) {z : ((Int32 × Int32 × Int32 × qa_M) ⊕ (Int32 × qa_M))} (E : f_X6_readTest_b107 F x1 x2 x3 h = some z) (G : (Sum.elim (fun (sz : Int32 × Int32 × Int32 × qa_M) => qt_At l g (yX6_readTest, cX6_readTest, 5, (some .boolean)) (d + 7) 0 0 14 [(0, .ref (g.1 + 21)), (1, .int sz.1), (2, .int sz.2.1), (3, .int sz.2.2.1)] [] sz.2.2.2 rz hz) (qg_i rz hz)) z) : qt_At l g (yX6_readTest, cX6_readTest, 5, (some .boolean)) (d + 7) 0 0 107 [(0, .ref (g.1 + 21)), (1, .int x1), (2, .int x2), (3, .int x3)] [] h rz hz := by
  unfold f_X6_readTest_b107 at E
  refine qt_iinc 3 (fun v107 => [(3, .int v107), (0, .ref (g.1 + 21)), (1, .int x1), (2, .int x2)]) dX6_readTest_107 rfl ci_1 (Nat.le_of_ble_eq_true rfl) (fun _ => rfl) E (fun v107 E => ?_)
  refine qt_goto 14 dX6_readTest_110 (by decide) ?_
  cases E
  exact qt_sub _ [1, 2, 3, 0] rfl (G)
noncomputable def f_X6_readTest_b75 (F : Bool → Int32 → qa_M → Option (Int32 × qa_M)) (x1 : Int32) (x3 : Int32) (x4 : Int32) (s0 : Int32) (h : qa_M) : Option ((Int32 × Int32 × Int32 × qa_M) ⊕ (Int32 × qa_M)) :=
  qbd s0 (fun v75 : Int32 =>
  qbv (m_X9_scan h) (fun h80 : qa_M =>
  qbn (F false x1 h80) (fun (c85 : Int32) (h85 : qa_M) =>
  if c85 = 0 then (
   qup (some ((0 : Int32), h85)))
  else (
   if x4 = 0 then (
    qnn (h85.2.2.1 21 1) (fun a99 =>
    qpr (a99 = 83 ∨ a99 = 92 ∨ a99 = 101 ∨ a99 = 110) (
    qbv (m_X5_emit a99 (-20 : Int32) h85) (fun h104 : qa_M =>
    f_X6_readTest_b107 F x1 v75 x3 h104))))
   else (
    f_X6_readTest_b107 F x1 v75 x3 h85)))))
set_option maxRecDepth 20000 in
theorem s_X6_readTest_b75 {l : Launch} {g : qa_G} {d : Nat} {rz : Option Value} {hz : qa_M} (F : Bool → Int32 → qa_M → Option (Int32 × qa_M)) (HF : ∀ (bb : Bool) (x : Int32) (h : qa_M) (c : Int32) (h1 : qa_M), F bb x h = some (c, h1) → qt_Met l g (if bb then (yX6_readTest, cX6_readTest, 5, some .boolean) else (yX6_readFact, cX6_readFact, 3, some .boolean)) (d + 6) 0 [.ref (g.1 + 21), .int x] h (some (.int c)) h1) (x1 : Int32) (x3 : Int32) (x4 : Int32) (s0 : Int32) (h : qa_M) {z : ((Int32 × Int32 × Int32 × qa_M) ⊕ (Int32 × qa_M))} (E : f_X6_readTest_b75 F x1 x3 x4 s0 h = some z) (G : (Sum.elim (fun (sz : Int32 × Int32 × Int32 × qa_M) => qt_At l g (yX6_readTest, cX6_readTest, 5, (some .boolean)) (d + 7) 0 0 14 [(0, .ref (g.1 + 21)), (1, .int sz.1), (2, .int sz.2.1), (3, .int sz.2.2.1)] [] sz.2.2.2 rz hz) (qg_i rz hz)) z) : qt_At l g (yX6_readTest, cX6_readTest, 5, (some .boolean)) (d + 7) 0 0 75 [(0, .ref (g.1 + 21)), (1, .int x1), (3, .int x3), (4, .int x4)] [.int s0] h rz hz := by
  unfold f_X6_readTest_b75 at E
  refine qt_istore_n (fun v75 => [(2, .int v75), (0, .ref (g.1 + 21)), (1, .int x1), (3, .int x3), (4, .int x4)]) dX6_readTest_75 rfl (Nat.le_of_ble_eq_true rfl) (fun _ => rfl) E (fun v75 E => ?_)
  refine qt_aload_n 1 dX6_readTest_76 rfl rfl ?_
  refine qt_getS 1 (wl_21 h) fe_RX6_9 rfl dX6_readTest_77 ?_
  obtain ⟨h80, e80, E⟩ := qbv_el E
  refine qt_callVv (b2 := 0) [] (c_X9_scan h e80) cv_RX6_46 (wl_1 h) rfl rfl rfl (Nat.le_of_ble_eq_true rfl) (Nat.le_of_ble_eq_true rfl) dX6_readTest_80 ?_
  refine qt_aload_n 1 dX6_readTest_83 rfl rfl ?_
  refine qt_iload_n 2 dX6_readTest_84 rfl rfl ?_
  obtain ⟨c85, h85, e85, E⟩ := qbn_el E
  refine qt_callVi (b2 := 0) [.int x1] (HF false x1 h80 _ _ e85) cv_RX6_80 (wl_21 h80) rfl rfl rfl (Nat.le_of_ble_eq_true rfl) (Nat.le_of_ble_eq_true rfl) dX6_readTest_85 ?_
  refine qt_if_ne 93 dX6_readTest_88 (by decide) E (fun E => ?_) (fun E => ?_)
  · refine qt_iload 4 dX6_readTest_93 rfl ?_
    refine qt_if_ne 107 dX6_readTest_95 (by decide) E (fun E => ?_) (fun E => ?_)
    · exact qt_sub _ [1, 2, 0, 3] rfl ((s_X6_readTest_b107 F HF x1 v75 x3 h85 E G))
    · refine qt_aload_n 1 dX6_readTest_98 rfl rfl ?_
      refine qt_getR (wl_21 h85) fe_RX6_15 rfl dX6_readTest_99 ?_
      obtain ⟨a99, q99, E⟩ := qnn_el E
      refine qt_nn q99 ?_
      obtain ⟨p99, E⟩ := qpr_el E
      refine qt_bipush dX6_readTest_102 cb_m20 ?_
      obtain ⟨h104, e104, E⟩ := qbv_el E
      refine qt_callVv (b2 := 0) [.int (-20 : Int32)] (c_X5_emit a99 (-20 : Int32) h85 p99 e104) cv_RX6_85 (wl_Law_0 p99 h85) rfl rfl rfl (Nat.le_of_ble_eq_true rfl) (Nat.le_of_ble_eq_true rfl) dX6_readTest_104 ?_
      exact qt_sub _ [1, 2, 0, 3] rfl ((s_X6_readTest_b107 F HF x1 v75 x3 h104 E G))
  · refine qt_iconst dX6_readTest_91 ci_0 ?_
    obtain ⟨z0_, E, G⟩ := qup_g E G
    exact qt_zreturn rfl (Or.inl rfl) (Nat.le_of_ble_eq_true rfl) dX6_readTest_92 E G
noncomputable def f_X6_readTest_b70 (F : Bool → Int32 → qa_M → Option (Int32 × qa_M)) (x1 : Int32) (x3 : Int32) (x4 : Int32) (h : qa_M) : Option ((Int32 × Int32 × Int32 × qa_M) ⊕ (Int32 × qa_M)) :=
  f_X6_readTest_b75 F x1 x3 x4 (1 : Int32) h
set_option maxRecDepth 20000 in
theorem s_X6_readTest_b70 {l : Launch} {g : qa_G} {d : Nat} {rz : Option Value} {hz : qa_M} (F : Bool → Int32 → qa_M → Option (Int32 × qa_M)) (HF : ∀ (bb : Bool) (x : Int32) (h : qa_M) (c : Int32) (h1 : qa_M), F bb x h = some (c, h1) → qt_Met l g (if bb then (yX6_readTest, cX6_readTest, 5, some .boolean) else (yX6_readFact, cX6_readFact, 3, some .boolean)) (d + 6) 0 [.ref (g.1 + 21), .int x] h (some (.int c)) h1) (x1 : Int32) (x3 : Int32) (x4 : Int32) (h : qa_M) {z : ((Int32 × Int32 × Int32 × qa_M) ⊕ (Int32 × qa_M))} (E : f_X6_readTest_b70 F x1 x3 x4 h = some z) (G : (Sum.elim (fun (sz : Int32 × Int32 × Int32 × qa_M) => qt_At l g (yX6_readTest, cX6_readTest, 5, (some .boolean)) (d + 7) 0 0 14 [(0, .ref (g.1 + 21)), (1, .int sz.1), (2, .int sz.2.1), (3, .int sz.2.2.1)] [] sz.2.2.2 rz hz) (qg_i rz hz)) z) : qt_At l g (yX6_readTest, cX6_readTest, 5, (some .boolean)) (d + 7) 0 0 70 [(0, .ref (g.1 + 21)), (1, .int x1), (3, .int x3), (4, .int x4)] [] h rz hz := by
  unfold f_X6_readTest_b70 at E
  refine qt_iconst dX6_readTest_70 ci_1 ?_
  refine qt_goto 75 dX6_readTest_71 (by decide) ?_
  exact qt_sub _ [0, 1, 2, 3] rfl ((s_X6_readTest_b75 F HF x1 x3 x4 (1 : Int32) h E G))
noncomputable def f_X6_readTest_b60 (F : Bool → Int32 → qa_M → Option (Int32 × qa_M)) (x1 : Int32) (x2 : Int32) (x3 : Int32) (x4 : Int32) (h : qa_M) : Option ((Int32 × Int32 × Int32 × qa_M) ⊕ (Int32 × qa_M)) :=
  if x2 = 0 then (
   if x4 = (1 : Int32) then (
    f_X6_readTest_b70 F x1 x3 x4 h)
   else (
    f_X6_readTest_b75 F x1 x3 x4 (0 : Int32) h))
  else (
   f_X6_readTest_b70 F x1 x3 x4 h)
set_option maxRecDepth 20000 in
theorem s_X6_readTest_b60 {l : Launch} {g : qa_G} {d : Nat} {rz : Option Value} {hz : qa_M} (F : Bool → Int32 → qa_M → Option (Int32 × qa_M)) (HF : ∀ (bb : Bool) (x : Int32) (h : qa_M) (c : Int32) (h1 : qa_M), F bb x h = some (c, h1) → qt_Met l g (if bb then (yX6_readTest, cX6_readTest, 5, some .boolean) else (yX6_readFact, cX6_readFact, 3, some .boolean)) (d + 6) 0 [.ref (g.1 + 21), .int x] h (some (.int c)) h1) (x1 : Int32) (x2 : Int32) (x3 : Int32) (x4 : Int32) (h : qa_M) {z : ((Int32 × Int32 × Int32 × qa_M) ⊕ (Int32 × qa_M))} (E : f_X6_readTest_b60 F x1 x2 x3 x4 h = some z) (G : (Sum.elim (fun (sz : Int32 × Int32 × Int32 × qa_M) => qt_At l g (yX6_readTest, cX6_readTest, 5, (some .boolean)) (d + 7) 0 0 14 [(0, .ref (g.1 + 21)), (1, .int sz.1), (2, .int sz.2.1), (3, .int sz.2.2.1)] [] sz.2.2.2 rz hz) (qg_i rz hz)) z) : qt_At l g (yX6_readTest, cX6_readTest, 5, (some .boolean)) (d + 7) 0 0 60 [(0, .ref (g.1 + 21)), (1, .int x1), (2, .int x2), (3, .int x3), (4, .int x4)] [] h rz hz := by
  unfold f_X6_readTest_b60 at E
  refine qt_iload_n 2 dX6_readTest_60 rfl rfl ?_
  refine qt_if_ne 70 dX6_readTest_61 (by decide) E (fun E => ?_) (fun E => ?_)
  · exact qt_sub _ [0, 1, 3, 4] rfl ((s_X6_readTest_b70 F HF x1 x3 x4 h E G))
  · refine qt_iload 4 dX6_readTest_64 rfl ?_
    refine qt_iconst dX6_readTest_66 ci_1 ?_
    refine qt_icmp_ne 74 dX6_readTest_67 (by decide) E (fun E => ?_) (fun E => ?_)
    · refine qt_iconst dX6_readTest_74 ci_0 ?_
      exact qt_sub _ [0, 1, 3, 4] rfl ((s_X6_readTest_b75 F HF x1 x3 x4 (0 : Int32) h E G))
    · exact qt_sub _ [0, 1, 3, 4] rfl ((s_X6_readTest_b70 F HF x1 x3 x4 h E G))
noncomputable def f_X6_readTest_b38 (F : Bool → Int32 → qa_M → Option (Int32 × qa_M)) (x2 : Int32) (h : qa_M) : Option (Int32 × qa_M) :=
  f_X6_readTest_b113 F x2 h
set_option maxRecDepth 20000 in
theorem s_X6_readTest_b38 {l : Launch} {g : qa_G} {d : Nat} {rz : Option Value} {hz : qa_M} (F : Bool → Int32 → qa_M → Option (Int32 × qa_M)) (HF : ∀ (bb : Bool) (x : Int32) (h : qa_M) (c : Int32) (h1 : qa_M), F bb x h = some (c, h1) → qt_Met l g (if bb then (yX6_readTest, cX6_readTest, 5, some .boolean) else (yX6_readFact, cX6_readFact, 3, some .boolean)) (d + 6) 0 [.ref (g.1 + 21), .int x] h (some (.int c)) h1) (x2 : Int32) (h : qa_M) {z : (Int32 × qa_M)} (E : f_X6_readTest_b38 F x2 h = some z) (G : (qg_i rz hz) z) : qt_At l g (yX6_readTest, cX6_readTest, 5, (some .boolean)) (d + 7) 0 0 38 [(0, .ref (g.1 + 21)), (2, .int x2)] [] h rz hz := by
  unfold f_X6_readTest_b38 at E
  refine qt_goto 113 dX6_readTest_38 (by decide) ?_
  exact qt_sub _ [0, 1] rfl ((s_X6_readTest_b113 F HF x2 h E G))
noncomputable def f_X6_readTest_b14 (F : Bool → Int32 → qa_M → Option (Int32 × qa_M)) (x1 : Int32) (x2 : Int32) (x3 : Int32) (h : qa_M) : Option ((Int32 × Int32 × Int32 × qa_M) ⊕ (Int32 × qa_M)) :=
  if (400 : Int32) ≤ x3 then (
   qup (f_X6_readTest_b113 F x2 h))
  else (
   qbn (m_X9_among 4 h) (fun (c27 : Int32) (h27 : qa_M) =>
   qbd c27 (fun v30 : Int32 =>
   if v30 = (-1 : Int32) then (
    qup (f_X6_readTest_b38 F x2 h27))
   else (
    if v30 = (1 : Int32) then (
     if x2 = 0 then (
      f_X6_readTest_b60 F x1 x2 x3 v30 h27)
     else (
      qnn (h27.2.2.1 21 1) (fun a52 =>
      qpr (a52 = 83 ∨ a52 = 92 ∨ a52 = 101 ∨ a52 = 110) (
      qbv (m_X5_emit a52 (-21 : Int32) h27) (fun h57 : qa_M =>
      f_X6_readTest_b60 F x1 x2 x3 v30 h57)))))
    else (
     f_X6_readTest_b60 F x1 x2 x3 v30 h27)))))
set_option maxRecDepth 20000 in
theorem s_X6_readTest_b14 {l : Launch} {g : qa_G} {d : Nat} {rz : Option Value} {hz : qa_M} (F : Bool → Int32 → qa_M → Option (Int32 × qa_M)) (HF : ∀ (bb : Bool) (x : Int32) (h : qa_M) (c : Int32) (h1 : qa_M), F bb x h = some (c, h1) → qt_Met l g (if bb then (yX6_readTest, cX6_readTest, 5, some .boolean) else (yX6_readFact, cX6_readFact, 3, some .boolean)) (d + 6) 0 [.ref (g.1 + 21), .int x] h (some (.int c)) h1) (x1 : Int32) (x2 : Int32) (x3 : Int32) (h : qa_M) {z : ((Int32 × Int32 × Int32 × qa_M) ⊕ (Int32 × qa_M))} (E : f_X6_readTest_b14 F x1 x2 x3 h = some z) (G : (Sum.elim (fun (sz : Int32 × Int32 × Int32 × qa_M) => qt_At l g (yX6_readTest, cX6_readTest, 5, (some .boolean)) (d + 7) 0 0 14 [(0, .ref (g.1 + 21)), (1, .int sz.1), (2, .int sz.2.1), (3, .int sz.2.2.1)] [] sz.2.2.2 rz hz) (qg_i rz hz)) z) : qt_At l g (yX6_readTest, cX6_readTest, 5, (some .boolean)) (d + 7) 0 0 14 [(0, .ref (g.1 + 21)), (1, .int x1), (2, .int x2), (3, .int x3)] [] h rz hz := by
  unfold f_X6_readTest_b14 at E
  refine qt_iload_n 3 dX6_readTest_14 rfl rfl ?_
  refine qt_sipush dX6_readTest_15 cs_400 ?_
  refine qt_icmp_ge 113 dX6_readTest_18 (by decide) E (fun E => ?_) (fun E => ?_)
  · obtain ⟨z0_, E, G⟩ := qup_g E G
    exact qt_sub _ [0, 2] rfl ((s_X6_readTest_b113 F HF x2 h E G))
  · refine qt_aload_n 0 dX6_readTest_21 rfl rfl ?_
    refine qt_getS 1 (wl_21 h) fe_RX6_9 rfl dX6_readTest_22 ?_
    refine qt_ldcS sr_RX6_83 dX6_readTest_25 ?_
    obtain ⟨c27, h27, e27, E⟩ := qbn_el E
    refine qt_callVi (b2 := 0) [.ref (g.2.2.2.1 4)] (c_X9_among 4 h (by decide) e27) cv_RX6_35 (wl_1 h) rfl rfl rfl (Nat.le_of_ble_eq_true rfl) (Nat.le_of_ble_eq_true rfl) dX6_readTest_27 ?_
    refine qt_istore (fun v30 => [(4, .int v30), (0, .ref (g.1 + 21)), (1, .int x1), (2, .int x2), (3, .int x3)]) dX6_readTest_30 (Nat.le_of_ble_eq_true rfl) (fun _ => rfl) E (fun v30 E => ?_)
    refine qt_iload 0 dX6_readTest_32 rfl ?_
    refine qt_iconst dX6_readTest_34 ci_m1 ?_
    refine qt_icmp_ne 41 dX6_readTest_35 (by decide) E (fun E => ?_) (fun E => ?_)
    · refine qt_iload 0 dX6_readTest_41 rfl ?_
      refine qt_iconst dX6_readTest_43 ci_1 ?_
      refine qt_icmp_ne 60 dX6_readTest_44 (by decide) E (fun E => ?_) (fun E => ?_)
      · exact qt_sub _ [1, 2, 3, 4, 0] rfl ((s_X6_readTest_b60 F HF x1 x2 x3 v30 h27 E G))
      · refine qt_iload_n 3 dX6_readTest_47 rfl rfl ?_
        refine qt_if_eq 60 dX6_readTest_48 (by decide) E (fun E => ?_) (fun E => ?_)
        · exact qt_sub _ [1, 2, 3, 4, 0] rfl ((s_X6_readTest_b60 F HF x1 x2 x3 v30 h27 E G))
        · refine qt_aload_n 1 dX6_readTest_51 rfl rfl ?_
          refine qt_getR (wl_21 h27) fe_RX6_15 rfl dX6_readTest_52 ?_
          obtain ⟨a52, q52, E⟩ := qnn_el E
          refine qt_nn q52 ?_
          obtain ⟨p52, E⟩ := qpr_el E
          refine qt_bipush dX6_readTest_55 cb_m21 ?_
          obtain ⟨h57, e57, E⟩ := qbv_el E
          refine qt_callVv (b2 := 0) [.int (-21 : Int32)] (c_X5_emit a52 (-21 : Int32) h27 p52 e57) cv_RX6_85 (wl_Law_0 p52 h27) rfl rfl rfl (Nat.le_of_ble_eq_true rfl) (Nat.le_of_ble_eq_true rfl) dX6_readTest_57 ?_
          exact qt_sub _ [1, 2, 3, 4, 0] rfl ((s_X6_readTest_b60 F HF x1 x2 x3 v30 h57 E G))
    · obtain ⟨z0_, E, G⟩ := qup_g E G
      exact qt_sub _ [1, 3] rfl ((s_X6_readTest_b38 F HF x2 h27 E G))
noncomputable def f_X6_readTest_b14_loop (F : Bool → Int32 → qa_M → Option (Int32 × qa_M)) (x1 : Int32) (x2 : Int32) (x3 : Int32) (h : qa_M) : Option (Int32 × qa_M) := qlp (fun sz : Int32 × Int32 × Int32 × qa_M => f_X6_readTest_b14 F sz.1 sz.2.1 sz.2.2.1 sz.2.2.2) (x1, x2, x3, h)
theorem s_X6_readTest_b14_loop {l : Launch} {g : qa_G} {d : Nat} {rz : Option Value} {hz : qa_M} (F : Bool → Int32 → qa_M → Option (Int32 × qa_M)) (HF : ∀ (bb : Bool) (x : Int32) (h : qa_M) (c : Int32) (h1 : qa_M), F bb x h = some (c, h1) → qt_Met l g (if bb then (yX6_readTest, cX6_readTest, 5, some .boolean) else (yX6_readFact, cX6_readFact, 3, some .boolean)) (d + 6) 0 [.ref (g.1 + 21), .int x] h (some (.int c)) h1) (x1 : Int32) (x2 : Int32) (x3 : Int32) (h : qa_M) {z : (Int32 × qa_M)} (E : f_X6_readTest_b14_loop F x1 x2 x3 h = some z) (G : (qg_i rz hz) z) : qt_At l g (yX6_readTest, cX6_readTest, 5, (some .boolean)) (d + 7) 0 0 14 [(0, .ref (g.1 + 21)), (1, .int x1), (2, .int x2), (3, .int x3)] [] h rz hz :=
  qlp_ind (fun sz : Int32 × Int32 × Int32 × qa_M => qt_At l g (yX6_readTest, cX6_readTest, 5, (some .boolean)) (d + 7) 0 0 14 [(0, .ref (g.1 + 21)), (1, .int sz.1), (2, .int sz.2.1), (3, .int sz.2.2.1)] [] sz.2.2.2 rz hz) (fun sz E => s_X6_readTest_b14 F HF sz.1 sz.2.1 sz.2.2.1 sz.2.2.2 E G) (fun sz sz2 E ih => s_X6_readTest_b14 F HF sz.1 sz.2.1 sz.2.2.1 sz.2.2.2 E ih) (x1, x2, x3, h) E
noncomputable def m_X6_readTest_F (F : Bool → Int32 → qa_M → Option (Int32 × qa_M)) (x1 : Int32) (h : qa_M) : Option (Int32 × qa_M) :=
  qbd (0 : Int32) (fun v1 : Int32 =>
  qbn (F false x1 h) (fun (c4 : Int32) (h4 : qa_M) =>
  if c4 = 0 then (
   some ((0 : Int32), h4))
  else (
   qbd (0 : Int32) (fun v13 : Int32 =>
   f_X6_readTest_b14_loop F x1 v1 v13 h4))))
set_option maxRecDepth 20000 in
theorem c_X6_readTest_F {l : Launch} {g : qa_G} {d : Nat} (F : Bool → Int32 → qa_M → Option (Int32 × qa_M)) (x1 : Int32) (h : qa_M) (HF : ∀ (bb : Bool) (x : Int32) (h : qa_M) (c : Int32) (h1 : qa_M), F bb x h = some (c, h1) → qt_Met l g (if bb then (yX6_readTest, cX6_readTest, 5, some .boolean) else (yX6_readFact, cX6_readFact, 3, some .boolean)) (d + 6) 0 [.ref (g.1 + 21), .int x] h (some (.int c)) h1) {c : Int32} {h1 : qa_M} (E : m_X6_readTest_F F x1 h = some (c, h1)) : qt_Met l g (yX6_readTest, cX6_readTest, 5, (some .boolean)) (d + 7) 0 [.ref (g.1 + 21), .int x1] h (some (.int c)) h1 := by
  refine qt_Met.of (plainFor_of_name (by decide)) (Nat.le_of_ble_eq_true rfl) ?_
  have G : qg_i (some (.int c)) h1 ((c, h1)) := ⟨rfl, rfl⟩
  unfold m_X6_readTest_F at E
  refine qt_iconst dX6_readTest_0 ci_0 ?_
  refine qt_istore_n (fun v1 => [(2, .int v1), (0, .ref (g.1 + 21)), (1, .int x1)]) dX6_readTest_1 rfl (Nat.le_of_ble_eq_true rfl) (fun _ => rfl) E (fun v1 E => ?_)
  refine qt_aload_n 1 dX6_readTest_2 rfl rfl ?_
  refine qt_iload_n 2 dX6_readTest_3 rfl rfl ?_
  obtain ⟨c4, h4, e4, E⟩ := qbn_el E
  refine qt_callVi (b2 := 0) [.int x1] (HF false x1 h _ _ e4) cv_RX6_80 (wl_21 h) rfl rfl rfl (Nat.le_of_ble_eq_true rfl) (Nat.le_of_ble_eq_true rfl) dX6_readTest_4 ?_
  refine qt_if_ne 12 dX6_readTest_7 (by decide) E (fun E => ?_) (fun E => ?_)
  · refine qt_iconst dX6_readTest_12 ci_0 ?_
    refine qt_istore_n (fun v13 => [(3, .int v13), (2, .int v1), (0, .ref (g.1 + 21)), (1, .int x1)]) dX6_readTest_13 rfl (Nat.le_of_ble_eq_true rfl) (fun _ => rfl) E (fun v13 E => ?_)
    exact qt_sub _ [2, 3, 1, 0] rfl ((s_X6_readTest_b14_loop F HF x1 v1 v13 h4 E G))
  · refine qt_iconst dX6_readTest_10 ci_0 ?_
    exact qt_zreturn rfl (Or.inl rfl) (Nat.le_of_ble_eq_true rfl) dX6_readTest_11 E G
noncomputable def m_X6_rec : Nat → Bool → Int32 → qa_M → Option (Int32 × qa_M)
  | 0, _, _, _ => none
  | n + 1, true, x, h => m_X6_readTest_F (m_X6_rec n) x h
  | n + 1, false, x, h => m_X6_readFact_F (m_X6_rec n) x h
theorem c_X6_rec {l : Launch} {g : qa_G} : ∀ (n d : Nat) (bb : Bool) (x : Int32) (h : qa_M) (c : Int32) (h1 : qa_M), m_X6_rec n bb x h = some (c, h1) → qt_Met l g (if bb then (yX6_readTest, cX6_readTest, 5, some .boolean) else (yX6_readFact, cX6_readFact, 3, some .boolean)) (d + 6 + n) 0 [.ref (g.1 + 21), .int x] h (some (.int c)) h1
  | 0, d, bb, x, h, c, h1, E => by cases E
  | n + 1, d, true, x, h, c, h1, E => by
    have := c_X6_readTest_F (l := l) (g := g) (d := d + n) (m_X6_rec n) x h (fun bb x h c h1 E => by have q := c_X6_rec (l := l) (g := g) n d bb x h c h1 E; rw [show d + 6 + n = d + n + 6 by omega] at q; exact q) E
    rw [show d + 6 + (n + 1) = d + n + 7 by omega]
    exact this
  | n + 1, d, false, x, h, c, h1, E => by
    have := c_X6_readFact_F (l := l) (g := g) (d := d + n) (m_X6_rec n) x h (fun bb x h c h1 E => by have q := c_X6_rec (l := l) (g := g) n d bb x h c h1 E; rw [show d + 6 + n = d + n + 6 by omega] at q; exact q) E
    rw [show d + 6 + (n + 1) = d + n + 7 by omega]
    exact this
noncomputable def m_X6_readTest (x1 : Int32) (h : qa_M) : Option (Int32 × qa_M) := m_X6_rec 31 true x1 h
theorem c_X6_readTest {l : Launch} {g : qa_G} {d : Nat} (x1 : Int32) (h : qa_M) {c : Int32} {h1 : qa_M} (E : m_X6_readTest x1 h = some (c, h1)) : qt_Met l g (yX6_readTest, cX6_readTest, 5, some .boolean) (d + 37) 0 [.ref (g.1 + 21), .int x1] h (some (.int c)) h1 := by
  have := c_X6_rec (l := l) (g := g) 31 d true x1 h c h1 E
  exact this
noncomputable def m_X6_readFact (x1 : Int32) (h : qa_M) : Option (Int32 × qa_M) := m_X6_rec 31 false x1 h
theorem c_X6_readFact {l : Launch} {g : qa_G} {d : Nat} (x1 : Int32) (h : qa_M) {c : Int32} {h1 : qa_M} (E : m_X6_readFact x1 h = some (c, h1)) : qt_Met l g (yX6_readFact, cX6_readFact, 3, some .boolean) (d + 37) 0 [.ref (g.1 + 21), .int x1] h (some (.int c)) h1 := by
  have := c_X6_rec (l := l) (g := g) 31 d false x1 h c h1 E
  exact this
noncomputable def f_X6_read_b185 (a1 : Nat) (h : qa_M) : Option (Int32 × qa_M) :=
  some (h.1 1 7, h)
set_option maxRecDepth 20000 in
theorem s_X6_read_b185 {l : Launch} {g : qa_G} {d : Nat} {rz : Option Value} {hz : qa_M} (a1 : Nat) (ha1 : qLaw a1) (h : qa_M) {z : (Int32 × qa_M)} (E : f_X6_read_b185 a1 h = some z) (G : (qg_i rz hz) z) : qt_At l g (yX6_read, cX6_read, 4, (some .int)) (d + 38) 0 0 185 [(0, .ref (g.1 + 21))] [] h rz hz := by
  unfold f_X6_read_b185 at E
  refine qt_aload_n 0 dX6_read_185 rfl rfl ?_
  refine qt_getS 1 (wl_21 h) fe_RX6_9 rfl dX6_read_186 ?_
  refine qt_getI (wl_1 h) fe_RX6_43 rfl dX6_read_189 ?_
  exact qt_ireturn rfl (Nat.le_of_ble_eq_true rfl) dX6_read_192 E G
noncomputable def f_X6_read_b123 (a1 : Nat) (h : qa_M) : Option (Int32 × qa_M) :=
  some (h.1 1 7, h)
set_option maxRecDepth 20000 in
theorem s_X6_read_b123 {l : Launch} {g : qa_G} {d : Nat} {rz : Option Value} {hz : qa_M} (a1 : Nat) (ha1 : qLaw a1) (h : qa_M) {z : (Int32 × qa_M)} (E : f_X6_read_b123 a1 h = some z) (G : (qg_i rz hz) z) : qt_At l g (yX6_read, cX6_read, 4, (some .int)) (d + 38) 0 0 123 [(0, .ref (g.1 + 21))] [] h rz hz := by
  unfold f_X6_read_b123 at E
  refine qt_aload_n 0 dX6_read_123 rfl rfl ?_
  refine qt_getS 1 (wl_21 h) fe_RX6_9 rfl dX6_read_124 ?_
  refine qt_getI (wl_1 h) fe_RX6_43 rfl dX6_read_127 ?_
  exact qt_ireturn rfl (Nat.le_of_ble_eq_true rfl) dX6_read_130 E G
noncomputable def f_X6_read_b155 (a1 : Nat) (h : qa_M) : Option (Int32 × qa_M) :=
  qbn (m_X9_fail (0 : Int32) h) (fun (c160 : Int32) (h160 : qa_M) =>
  some (h160.1 1 7, h160))
set_option maxRecDepth 20000 in
theorem s_X6_read_b155 {l : Launch} {g : qa_G} {d : Nat} {rz : Option Value} {hz : qa_M} (a1 : Nat) (ha1 : qLaw a1) (h : qa_M) {z : (Int32 × qa_M)} (E : f_X6_read_b155 a1 h = some z) (G : (qg_i rz hz) z) : qt_At l g (yX6_read, cX6_read, 4, (some .int)) (d + 38) 0 0 155 [(0, .ref (g.1 + 21))] [] h rz hz := by
  unfold f_X6_read_b155 at E
  refine qt_aload_n 0 dX6_read_155 rfl rfl ?_
  refine qt_getS 1 (wl_21 h) fe_RX6_9 rfl dX6_read_156 ?_
  refine qt_iconst dX6_read_159 ci_0 ?_
  obtain ⟨c160, h160, e160, E⟩ := qbn_el E
  refine qt_callVi (b2 := 0) [.int (0 : Int32)] (c_X9_fail (0 : Int32) h e160) cv_RX6_39 (wl_1 h) rfl rfl rfl (Nat.le_of_ble_eq_true rfl) (Nat.le_of_ble_eq_true rfl) dX6_read_160 ?_
  refine qt_pop dX6_read_163 rfl ?_
  refine qt_aload_n 0 dX6_read_164 rfl rfl ?_
  refine qt_getS 1 (wl_21 h160) fe_RX6_9 rfl dX6_read_165 ?_
  refine qt_getI (wl_1 h160) fe_RX6_43 rfl dX6_read_168 ?_
  exact qt_ireturn rfl (Nat.le_of_ble_eq_true rfl) dX6_read_171 E G
noncomputable def f_X6_read_b131 (a1 : Nat) (x2 : Int32) (h : qa_M) : Option ((Int32 × qa_M) ⊕ (Int32 × qa_M)) :=
  if (h.1 1 3) = 0 then (
   qup (some ((0 : Int32), h)))
  else (
   qbn (m_X9_isSign (59 : Int32) h) (fun (c149 : Int32) (h149 : qa_M) =>
   if c149 = 0 then (
    qup (f_X6_read_b155 a1 h149))
   else (
    qbv (m_X9_scan h149) (fun h176 : qa_M =>
    qbd (x2 + (1 : Int32)) (fun v179 : Int32 =>
    some (.inl (v179, h176)))))))
set_option maxRecDepth 20000 in
theorem s_X6_read_b131 {l : Launch} {g : qa_G} {d : Nat} {rz : Option Value} {hz : qa_M} (a1 : Nat) (ha1 : qLaw a1) (x2 : Int32) (h : qa_M) {z : ((Int32 × qa_M) ⊕ (Int32 × qa_M))} (E : f_X6_read_b131 a1 x2 h = some z) (G : (Sum.elim (fun (sz : Int32 × qa_M) => qt_At l g (yX6_read, cX6_read, 4, (some .int)) (d + 38) 0 0 26 [(0, .ref (g.1 + 21)), (2, .int sz.1)] [] sz.2 rz hz) (qg_i rz hz)) z) : qt_At l g (yX6_read, cX6_read, 4, (some .int)) (d + 38) 0 0 131 [(0, .ref (g.1 + 21)), (2, .int x2)] [] h rz hz := by
  unfold f_X6_read_b131 at E
  refine qt_aload_n 0 dX6_read_131 rfl rfl ?_
  refine qt_getS 1 (wl_21 h) fe_RX6_9 rfl dX6_read_132 ?_
  refine qt_getI (wl_1 h) fe_RX6_59 rfl dX6_read_135 ?_
  refine qt_if_ne 143 dX6_read_138 (by decide) E (fun E => ?_) (fun E => ?_)
  · refine qt_aload_n 0 dX6_read_143 rfl rfl ?_
    refine qt_getS 1 (wl_21 h) fe_RX6_9 rfl dX6_read_144 ?_
    refine qt_bipush dX6_read_147 cb_59 ?_
    obtain ⟨c149, h149, e149, E⟩ := qbn_el E
    refine qt_callVi (b2 := 0) [.int (59 : Int32)] (c_X9_isSign (59 : Int32) h e149) cv_RX6_62 (wl_1 h) rfl rfl rfl (Nat.le_of_ble_eq_true rfl) (Nat.le_of_ble_eq_true rfl) dX6_read_149 ?_
    refine qt_if_ne 172 dX6_read_152 (by decide) E (fun E => ?_) (fun E => ?_)
    · refine qt_aload_n 0 dX6_read_172 rfl rfl ?_
      refine qt_getS 1 (wl_21 h149) fe_RX6_9 rfl dX6_read_173 ?_
      obtain ⟨h176, e176, E⟩ := qbv_el E
      refine qt_callVv (b2 := 0) [] (c_X9_scan h149 e176) cv_RX6_46 (wl_1 h149) rfl rfl rfl (Nat.le_of_ble_eq_true rfl) (Nat.le_of_ble_eq_true rfl) dX6_read_176 ?_
      refine qt_iinc 1 (fun v179 => [(2, .int v179), (0, .ref (g.1 + 21))]) dX6_read_179 rfl ci_1 (Nat.le_of_ble_eq_true rfl) (fun _ => rfl) E (fun v179 E => ?_)
      refine qt_goto 26 dX6_read_182 (by decide) ?_
      cases E
      exact qt_sub _ [1, 0] rfl (G)
    · obtain ⟨z0_, E, G⟩ := qup_g E G
      exact qt_sub _ [0] rfl ((s_X6_read_b155 a1 ha1 h149 E G))
  · refine qt_iconst dX6_read_141 ci_0 ?_
    obtain ⟨z0_, E, G⟩ := qup_g E G
    exact qt_ireturn rfl (Nat.le_of_ble_eq_true rfl) dX6_read_142 E G
noncomputable def f_X6_read_b70 (a1 : Nat) (h : qa_M) : Option (Int32 × qa_M) :=
  qbn (m_X9_fail (4 : Int32) h) (fun (c75 : Int32) (h75 : qa_M) =>
  some (h75.1 1 7, h75))
set_option maxRecDepth 20000 in
theorem s_X6_read_b70 {l : Launch} {g : qa_G} {d : Nat} {rz : Option Value} {hz : qa_M} (a1 : Nat) (ha1 : qLaw a1) (h : qa_M) {z : (Int32 × qa_M)} (E : f_X6_read_b70 a1 h = some z) (G : (qg_i rz hz) z) : qt_At l g (yX6_read, cX6_read, 4, (some .int)) (d + 38) 0 0 70 [(0, .ref (g.1 + 21))] [] h rz hz := by
  unfold f_X6_read_b70 at E
  refine qt_aload_n 0 dX6_read_70 rfl rfl ?_
  refine qt_getS 1 (wl_21 h) fe_RX6_9 rfl dX6_read_71 ?_
  refine qt_iconst dX6_read_74 ci_4 ?_
  obtain ⟨c75, h75, e75, E⟩ := qbn_el E
  refine qt_callVi (b2 := 0) [.int (4 : Int32)] (c_X9_fail (4 : Int32) h e75) cv_RX6_39 (wl_1 h) rfl rfl rfl (Nat.le_of_ble_eq_true rfl) (Nat.le_of_ble_eq_true rfl) dX6_read_75 ?_
  refine qt_pop dX6_read_78 rfl ?_
  refine qt_aload_n 0 dX6_read_79 rfl rfl ?_
  refine qt_getS 1 (wl_21 h75) fe_RX6_9 rfl dX6_read_80 ?_
  refine qt_getI (wl_1 h75) fe_RX6_43 rfl dX6_read_83 ?_
  exact qt_ireturn rfl (Nat.le_of_ble_eq_true rfl) dX6_read_86 E G
noncomputable def f_X6_read_b47 (a1 : Nat) (h : qa_M) : Option (Int32 × qa_M) :=
  qbn (m_X9_fail (0 : Int32) h) (fun (c52 : Int32) (h52 : qa_M) =>
  some (h52.1 1 7, h52))
set_option maxRecDepth 20000 in
theorem s_X6_read_b47 {l : Launch} {g : qa_G} {d : Nat} {rz : Option Value} {hz : qa_M} (a1 : Nat) (ha1 : qLaw a1) (h : qa_M) {z : (Int32 × qa_M)} (E : f_X6_read_b47 a1 h = some z) (G : (qg_i rz hz) z) : qt_At l g (yX6_read, cX6_read, 4, (some .int)) (d + 38) 0 0 47 [(0, .ref (g.1 + 21))] [] h rz hz := by
  unfold f_X6_read_b47 at E
  refine qt_aload_n 0 dX6_read_47 rfl rfl ?_
  refine qt_getS 1 (wl_21 h) fe_RX6_9 rfl dX6_read_48 ?_
  refine qt_iconst dX6_read_51 ci_0 ?_
  obtain ⟨c52, h52, e52, E⟩ := qbn_el E
  refine qt_callVi (b2 := 0) [.int (0 : Int32)] (c_X9_fail (0 : Int32) h e52) cv_RX6_39 (wl_1 h) rfl rfl rfl (Nat.le_of_ble_eq_true rfl) (Nat.le_of_ble_eq_true rfl) dX6_read_52 ?_
  refine qt_pop dX6_read_55 rfl ?_
  refine qt_aload_n 0 dX6_read_56 rfl rfl ?_
  refine qt_getS 1 (wl_21 h52) fe_RX6_9 rfl dX6_read_57 ?_
  refine qt_getI (wl_1 h52) fe_RX6_43 rfl dX6_read_60 ?_
  exact qt_ireturn rfl (Nat.le_of_ble_eq_true rfl) dX6_read_63 E G
noncomputable def f_X6_read_b26 (a1 : Nat) (x2 : Int32) (h : qa_M) : Option ((Int32 × qa_M) ⊕ (Int32 × qa_M)) :=
  if (12 : Int32) < x2 then (
   qup (f_X6_read_b185 a1 h))
  else (
   qbn (m_X9_among 1 h) (fun (c38 : Int32) (h38 : qa_M) =>
   qbd c38 (fun v41 : Int32 =>
   if v41 = (-1 : Int32) then (
    qup (f_X6_read_b47 a1 h38))
   else (
    if x2 < (12 : Int32) then (
     qbv (m_X9_scan h38) (fun h91 : qa_M =>
     if v41 = 0 then (
      qbn (m_X6_readApart h91) (fun (c99 : Int32) (h99 : qa_M) =>
      if c99 = 0 then (
       qup (f_X6_read_b123 a1 h99))
      else (
       f_X6_read_b131 a1 x2 h99)))
     else (
      qbn (m_X6_readBarred h91) (fun (c109 : Int32) (h109 : qa_M) =>
      if c109 = 0 then (
       qup (f_X6_read_b123 a1 h109))
      else (
       qbn (m_X6_readTest (0 : Int32) h109) (fun (c117 : Int32) (h117 : qa_M) =>
       if c117 = 0 then (
        qup (f_X6_read_b123 a1 h117))
       else (
        f_X6_read_b131 a1 x2 h117)))))))
    else (
     qup (f_X6_read_b70 a1 h38))))))
set_option maxRecDepth 20000 in
theorem s_X6_read_b26 {l : Launch} {g : qa_G} {d : Nat} {rz : Option Value} {hz : qa_M} (a1 : Nat) (ha1 : qLaw a1) (x2 : Int32) (h : qa_M) {z : ((Int32 × qa_M) ⊕ (Int32 × qa_M))} (E : f_X6_read_b26 a1 x2 h = some z) (G : (Sum.elim (fun (sz : Int32 × qa_M) => qt_At l g (yX6_read, cX6_read, 4, (some .int)) (d + 38) 0 0 26 [(0, .ref (g.1 + 21)), (2, .int sz.1)] [] sz.2 rz hz) (qg_i rz hz)) z) : qt_At l g (yX6_read, cX6_read, 4, (some .int)) (d + 38) 0 0 26 [(0, .ref (g.1 + 21)), (2, .int x2)] [] h rz hz := by
  unfold f_X6_read_b26 at E
  refine qt_iload_n 1 dX6_read_26 rfl rfl ?_
  refine qt_bipush dX6_read_27 cb_12 ?_
  refine qt_icmp_gt 185 dX6_read_29 (by decide) E (fun E => ?_) (fun E => ?_)
  · obtain ⟨z0_, E, G⟩ := qup_g E G
    exact qt_sub _ [0] rfl ((s_X6_read_b185 a1 ha1 h E G))
  · refine qt_aload_n 0 dX6_read_32 rfl rfl ?_
    refine qt_getS 1 (wl_21 h) fe_RX6_9 rfl dX6_read_33 ?_
    refine qt_ldcS sr_RX6_33 dX6_read_36 ?_
    obtain ⟨c38, h38, e38, E⟩ := qbn_el E
    refine qt_callVi (b2 := 0) [.ref (g.2.2.2.1 1)] (c_X9_among 1 h (by decide) e38) cv_RX6_35 (wl_1 h) rfl rfl rfl (Nat.le_of_ble_eq_true rfl) (Nat.le_of_ble_eq_true rfl) dX6_read_38 ?_
    refine qt_istore_n (fun v41 => [(3, .int v41), (0, .ref (g.1 + 21)), (2, .int x2)]) dX6_read_41 rfl (Nat.le_of_ble_eq_true rfl) (fun _ => rfl) E (fun v41 E => ?_)
    refine qt_iload_n 0 dX6_read_42 rfl rfl ?_
    refine qt_iconst dX6_read_43 ci_m1 ?_
    refine qt_icmp_ne 64 dX6_read_44 (by decide) E (fun E => ?_) (fun E => ?_)
    · refine qt_iload_n 2 dX6_read_64 rfl rfl ?_
      refine qt_bipush dX6_read_65 cb_12 ?_
      refine qt_icmp_lt 87 dX6_read_67 (by decide) E (fun E => ?_) (fun E => ?_)
      · refine qt_aload_n 1 dX6_read_87 rfl rfl ?_
        refine qt_getS 1 (wl_21 h38) fe_RX6_9 rfl dX6_read_88 ?_
        obtain ⟨h91, e91, E⟩ := qbv_el E
        refine qt_callVv (b2 := 0) [] (c_X9_scan h38 e91) cv_RX6_46 (wl_1 h38) rfl rfl rfl (Nat.le_of_ble_eq_true rfl) (Nat.le_of_ble_eq_true rfl) dX6_read_91 ?_
        refine qt_iload_n 0 dX6_read_94 rfl rfl ?_
        refine qt_if_ne 108 dX6_read_95 (by decide) E (fun E => ?_) (fun E => ?_)
        · refine qt_aload_n 1 dX6_read_108 rfl rfl ?_
          obtain ⟨c109, h109, e109, E⟩ := qbn_el E
          refine qt_callVi (b2 := 0) [] (c_X6_readBarred h91 e109) cv_RX6_53 (wl_21 h91) rfl rfl rfl (Nat.le_of_ble_eq_true rfl) (Nat.le_of_ble_eq_true rfl) dX6_read_109 ?_
          refine qt_if_eq 123 dX6_read_112 (by decide) E (fun E => ?_) (fun E => ?_)
          · obtain ⟨z0_, E, G⟩ := qup_g E G
            exact qt_sub _ [1] rfl ((s_X6_read_b123 a1 ha1 h109 E G))
          · refine qt_aload_n 1 dX6_read_115 rfl rfl ?_
            refine qt_iconst dX6_read_116 ci_0 ?_
            obtain ⟨c117, h117, e117, E⟩ := qbn_el E
            refine qt_callVi (b2 := 0) [.int (0 : Int32)] (c_X6_readTest (0 : Int32) h109 e117) cv_RX6_56 (wl_21 h109) rfl rfl rfl (Nat.le_of_ble_eq_true rfl) (Nat.le_of_ble_eq_true rfl) dX6_read_117 ?_
            refine qt_if_ne 131 dX6_read_120 (by decide) E (fun E => ?_) (fun E => ?_)
            · exact qt_sub _ [1, 2] rfl ((s_X6_read_b131 a1 ha1 x2 h117 E G))
            · obtain ⟨z0_, E, G⟩ := qup_g E G
              exact qt_sub _ [1] rfl ((s_X6_read_b123 a1 ha1 h117 E G))
        · refine qt_aload_n 1 dX6_read_98 rfl rfl ?_
          obtain ⟨c99, h99, e99, E⟩ := qbn_el E
          refine qt_callVi (b2 := 0) [] (c_X6_readApart h91 e99) cv_RX6_49 (wl_21 h91) rfl rfl rfl (Nat.le_of_ble_eq_true rfl) (Nat.le_of_ble_eq_true rfl) dX6_read_99 ?_
          refine qt_if_eq 123 dX6_read_102 (by decide) E (fun E => ?_) (fun E => ?_)
          · obtain ⟨z0_, E, G⟩ := qup_g E G
            exact qt_sub _ [1] rfl ((s_X6_read_b123 a1 ha1 h99 E G))
          · refine qt_goto 131 dX6_read_105 (by decide) ?_
            exact qt_sub _ [1, 2] rfl ((s_X6_read_b131 a1 ha1 x2 h99 E G))
      · obtain ⟨z0_, E, G⟩ := qup_g E G
        exact qt_sub _ [1] rfl ((s_X6_read_b70 a1 ha1 h38 E G))
    · obtain ⟨z0_, E, G⟩ := qup_g E G
      exact qt_sub _ [1] rfl ((s_X6_read_b47 a1 ha1 h38 E G))
noncomputable def f_X6_read_b26_loop (a1 : Nat) (x2 : Int32) (h : qa_M) : Option (Int32 × qa_M) := qlp (fun sz : Int32 × qa_M => f_X6_read_b26 a1 sz.1 sz.2) (x2, h)
theorem s_X6_read_b26_loop {l : Launch} {g : qa_G} {d : Nat} {rz : Option Value} {hz : qa_M} (a1 : Nat) (ha1 : qLaw a1) (x2 : Int32) (h : qa_M) {z : (Int32 × qa_M)} (E : f_X6_read_b26_loop a1 x2 h = some z) (G : (qg_i rz hz) z) : qt_At l g (yX6_read, cX6_read, 4, (some .int)) (d + 38) 0 0 26 [(0, .ref (g.1 + 21)), (2, .int x2)] [] h rz hz :=
  qlp_ind (fun sz : Int32 × qa_M => qt_At l g (yX6_read, cX6_read, 4, (some .int)) (d + 38) 0 0 26 [(0, .ref (g.1 + 21)), (2, .int sz.1)] [] sz.2 rz hz) (fun sz E => s_X6_read_b26 a1 ha1 sz.1 sz.2 E G) (fun sz sz2 E ih => s_X6_read_b26 a1 ha1 sz.1 sz.2 E ih) (x2, h) E
noncomputable def m_X6_read (a1 : Nat) (h : qa_M) : Option (Int32 × qa_M) :=
  qbd (qw_R h 21 1 (a1 + 1)) (fun h2 : qa_M =>
  qnn (h2.2.2.1 21 1) (fun a6 =>
  qpr (a6 = 83 ∨ a6 = 92 ∨ a6 = 101 ∨ a6 = 110) (
  qbv (m_X5_clear a6 h2) (fun h9 : qa_M =>
  qbd (qw_I h9 21 2 (0 : Int32)) (fun h14 : qa_M =>
  qbv (m_X9_begin h14) (fun h21 : qa_M =>
  qbd (0 : Int32) (fun v25 : Int32 =>
  f_X6_read_b26_loop a1 v25 h21)))))))
set_option maxRecDepth 20000 in
theorem c_X6_read {l : Launch} {g : qa_G} {d : Nat} (a1 : Nat) (h : qa_M) (ha1 : qLaw a1) {c : Int32} {h1 : qa_M} (E : m_X6_read a1 h = some (c, h1)) : qt_Met l g (yX6_read, cX6_read, 4, (some .int)) (d + 38) 0 [.ref (g.1 + 21), .ref (g.1 + a1)] h (some (.int c)) h1 := by
  refine qt_Met.of (plainFor_of_name (by decide)) (Nat.le_of_ble_eq_true rfl) ?_
  have G : qg_i (some (.int c)) h1 ((c, h1)) := ⟨rfl, rfl⟩
  unfold m_X6_read at E
  refine qt_aload_n 0 dX6_read_0 rfl rfl ?_
  refine qt_aload_n 1 dX6_read_1 rfl rfl ?_
  refine qt_putR (wl_21 h) fd_RX6_15 rfl rfl rfl dX6_read_2 E (fun h2 E => ?_)
  refine qt_aload_n 0 dX6_read_5 rfl rfl ?_
  refine qt_getR (wl_21 h2) fe_RX6_15 rfl dX6_read_6 ?_
  obtain ⟨a6, q6, E⟩ := qnn_el E
  refine qt_nn q6 ?_
  obtain ⟨p6, E⟩ := qpr_el E
  obtain ⟨h9, e9, E⟩ := qbv_el E
  refine qt_callVv (b2 := 0) [] (c_X5_clear a6 h2 p6 e9) cv_RX6_19 (wl_Law_0 p6 h2) rfl rfl rfl (Nat.le_of_ble_eq_true rfl) (Nat.le_of_ble_eq_true rfl) dX6_read_9 ?_
  refine qt_aload_n 0 dX6_read_12 rfl rfl ?_
  refine qt_iconst dX6_read_13 ci_0 ?_
  refine qt_putI (wl_21 h9) fd_RX6_24 rfl rfl rfl dX6_read_14 E (fun h14 E => ?_)
  refine qt_aload_n 0 dX6_read_17 rfl rfl ?_
  refine qt_getS 1 (wl_21 h14) fe_RX6_9 rfl dX6_read_18 ?_
  obtain ⟨h21, e21, E⟩ := qbv_el E
  refine qt_callVv (b2 := 0) [] (c_X9_begin h14 e21) cv_RX6_28 (wl_1 h14) rfl rfl rfl (Nat.le_of_ble_eq_true rfl) (Nat.le_of_ble_eq_true rfl) dX6_read_21 ?_
  refine qt_iconst dX6_read_24 ci_0 ?_
  refine qt_istore_n (fun v25 => [(2, .int v25), (0, .ref (g.1 + 21)), (1, .ref (g.1 + a1))]) dX6_read_25 rfl (Nat.le_of_ble_eq_true rfl) (fun _ => rfl) E (fun v25 E => ?_)
  exact qt_sub _ [1, 0] rfl ((s_X6_read_b26_loop a1 ha1 v25 h21 E G))
noncomputable def m_X11_law (h : qa_M) : Option (Int32 × qa_M) :=
  if (h.1 0 5) < (4 : Int32) then (
   qck (h.1 0 5) 4 (
   qnn (h.2.2.1 13 (h.1 0 5).toNatClampNeg) (fun a22 =>
   qpr (a22 = 83 ∨ a22 = 92 ∨ a22 = 101 ∨ a22 = 110) (
   qbn (m_X6_read a22 h) (fun (c23 : Int32) (h23 : qa_M) =>
   qbd c23 (fun v26 : Int32 =>
   qbd (qw_I h23 1 1 (0 : Int32)) (fun h32 : qa_M =>
   if v26 = 0 then (
    qbd (qw_I h32 0 5 ((h32.1 0 5) + (1 : Int32))) (fun h51 : qa_M =>
    some (((h51.1 0 5) - (1 : Int32)), h51)))
   else (
    some (((-2 : Int32) - v26), h32)))))))))
  else (
   some ((-1 : Int32), h))
set_option maxRecDepth 20000 in
theorem c_X11_law {l : Launch} {g : qa_G} {d : Nat} (h : qa_M) {c : Int32} {h1 : qa_M} (E : m_X11_law h = some (c, h1)) : qt_Met l g (yX11_law, cX11_law, 2, (some .int)) (d + 39) 0 [.ref (g.1 + 0)] h (some (.int c)) h1 := by
  refine qt_Met.of (plainFor_of_name (by decide)) (Nat.le_of_ble_eq_true rfl) ?_
  have G : qg_i (some (.int c)) h1 ((c, h1)) := ⟨rfl, rfl⟩
  unfold m_X11_law at E
  refine qt_aload_n 0 dX11_law_0 rfl rfl ?_
  refine qt_getI (wl_0 h) fe_RX11_121 rfl dX11_law_1 ?_
  refine qt_iconst dX11_law_4 ci_4 ?_
  refine qt_icmp_lt 10 dX11_law_5 (by decide) E (fun E => ?_) (fun E => ?_)
  · refine qt_aload_n 0 dX11_law_10 rfl rfl ?_
    refine qt_getS 21 (wl_0 h) fe_RX11_58 rfl dX11_law_11 ?_
    refine qt_aload_n 0 dX11_law_14 rfl rfl ?_
    refine qt_getS 13 (wl_0 h) fe_RX11_33 rfl dX11_law_15 ?_
    refine qt_aload_n 0 dX11_law_18 rfl rfl ?_
    refine qt_getI (wl_0 h) fe_RX11_121 rfl dX11_law_19 ?_
    refine qt_aald (Or.inr rfl) (wl_13 h) dX11_law_22 E (fun E => ?_)
    obtain ⟨a22, q22, E⟩ := qnn_el E
    refine qt_nn q22 ?_
    obtain ⟨p22, E⟩ := qpr_el E
    obtain ⟨c23, h23, e23, E⟩ := qbn_el E
    refine qt_callVi (b2 := 0) [.ref (g.1 + a22)] (c_X6_read a22 h p22 e23) cv_RX11_124 (wl_21 h) rfl rfl rfl (Nat.le_of_ble_eq_true rfl) (Nat.le_of_ble_eq_true rfl) dX11_law_23 ?_
    refine qt_istore_n (fun v26 => [(1, .int v26), (0, .ref (g.1 + 0))]) dX11_law_26 rfl (Nat.le_of_ble_eq_true rfl) (fun _ => rfl) E (fun v26 E => ?_)
    refine qt_aload_n 1 dX11_law_27 rfl rfl ?_
    refine qt_getS 1 (wl_0 h23) fe_RX11_10 rfl dX11_law_28 ?_
    refine qt_iconst dX11_law_31 ci_0 ?_
    refine qt_putI (wl_1 h23) fd_RX11_97 rfl rfl rfl dX11_law_32 E (fun h32 E => ?_)
    refine qt_iload_n 0 dX11_law_35 rfl rfl ?_
    refine qt_if_eq 44 dX11_law_36 (by decide) E (fun E => ?_) (fun E => ?_)
    · refine qt_aload_n 1 dX11_law_44 rfl rfl ?_
      refine qt_dup dX11_law_45 rfl ?_
      refine qt_getI (wl_0 h32) fe_RX11_121 rfl dX11_law_46 ?_
      refine qt_iconst dX11_law_49 ci_1 ?_
      refine qt_iadd dX11_law_50 ?_
      refine qt_putI (wl_0 h32) fd_RX11_121 rfl rfl rfl dX11_law_51 E (fun h51 E => ?_)
      refine qt_aload_n 1 dX11_law_54 rfl rfl ?_
      refine qt_getI (wl_0 h51) fe_RX11_121 rfl dX11_law_55 ?_
      refine qt_iconst dX11_law_58 ci_1 ?_
      refine qt_isub dX11_law_59 ?_
      exact qt_ireturn rfl (Nat.le_of_ble_eq_true rfl) dX11_law_60 E G
    · refine qt_bipush dX11_law_39 cb_m2 ?_
      refine qt_iload_n 0 dX11_law_41 rfl rfl ?_
      refine qt_isub dX11_law_42 ?_
      exact qt_ireturn rfl (Nat.le_of_ble_eq_true rfl) dX11_law_43 E G
  · refine qt_iconst dX11_law_8 ci_m1 ?_
    exact qt_ireturn rfl (Nat.le_of_ble_eq_true rfl) dX11_law_9 E G
noncomputable def m_X11_stands (x1 : Int32) (h : qa_M) : Option (Int32 × qa_M) :=
  if x1 < (-1 : Int32) then (
   some ((-2 : Int32), h))
  else (
   if x1 < (h.1 0 5) then (
    qbd (h.1 3 3) (fun v23 : Int32 =>
    qbd (qw_I h 3 3 x1) (fun h29 : qa_M =>
    qbd (qw_I h29 0 13 ((h29.1 0 13) + (1 : Int32))) (fun h39 : qa_M =>
    some (v23, h39)))))
   else (
    some ((-2 : Int32), h)))
set_option maxRecDepth 20000 in
theorem c_X11_stands {l : Launch} {g : qa_G} {d : Nat} (x1 : Int32) (h : qa_M) {c : Int32} {h1 : qa_M} (E : m_X11_stands x1 h = some (c, h1)) : qt_Met l g (yX11_stands, cX11_stands, 3, (some .int)) d 0 [.ref (g.1 + 0), .int x1] h (some (.int c)) h1 := by
  refine qt_Met.of (plainFor_of_name (by decide)) (Nat.le_of_ble_eq_true rfl) ?_
  have G : qg_i (some (.int c)) h1 ((c, h1)) := ⟨rfl, rfl⟩
  unfold m_X11_stands at E
  refine qt_iload_n 1 dX11_stands_0 rfl rfl ?_
  refine qt_iconst dX11_stands_1 ci_m1 ?_
  refine qt_icmp_lt 13 dX11_stands_2 (by decide) E (fun E => ?_) (fun E => ?_)
  · refine qt_bipush dX11_stands_13 cb_m2 ?_
    exact qt_ireturn rfl (Nat.le_of_ble_eq_true rfl) dX11_stands_15 E G
  · refine qt_iload_n 1 dX11_stands_5 rfl rfl ?_
    refine qt_aload_n 0 dX11_stands_6 rfl rfl ?_
    refine qt_getI (wl_0 h) fe_RX11_121 rfl dX11_stands_7 ?_
    refine qt_icmp_lt 16 dX11_stands_10 (by decide) E (fun E => ?_) (fun E => ?_)
    · refine qt_aload_n 0 dX11_stands_16 rfl rfl ?_
      refine qt_getS 3 (wl_0 h) fe_RX11_19 rfl dX11_stands_17 ?_
      refine qt_getI (wl_3 h) fe_RX11_127 rfl dX11_stands_20 ?_
      refine qt_istore_n (fun v23 => [(2, .int v23), (0, .ref (g.1 + 0)), (1, .int x1)]) dX11_stands_23 rfl (Nat.le_of_ble_eq_true rfl) (fun _ => rfl) E (fun v23 E => ?_)
      refine qt_aload_n 1 dX11_stands_24 rfl rfl ?_
      refine qt_getS 3 (wl_0 h) fe_RX11_19 rfl dX11_stands_25 ?_
      refine qt_iload_n 2 dX11_stands_28 rfl rfl ?_
      refine qt_putI (wl_3 h) fd_RX11_127 rfl rfl rfl dX11_stands_29 E (fun h29 E => ?_)
      refine qt_aload_n 1 dX11_stands_32 rfl rfl ?_
      refine qt_dup dX11_stands_33 rfl ?_
      refine qt_getI (wl_0 h29) fe_RX11_92 rfl dX11_stands_34 ?_
      refine qt_iconst dX11_stands_37 ci_1 ?_
      refine qt_iadd dX11_stands_38 ?_
      refine qt_putI (wl_0 h29) fd_RX11_92 rfl rfl rfl dX11_stands_39 E (fun h39 E => ?_)
      refine qt_iload_n 0 dX11_stands_42 rfl rfl ?_
      exact qt_ireturn rfl (Nat.le_of_ble_eq_true rfl) dX11_stands_43 E G
    · refine qt_bipush dX11_stands_13 cb_m2 ?_
      exact qt_ireturn rfl (Nat.le_of_ble_eq_true rfl) dX11_stands_15 E G
noncomputable def m_X11_within (x0 : Int32) (x1 : Int32) (h : qa_M) : Option (Int32 × qa_M) :=
  if x0 < 0 then (
   some ((0 : Int32), h))
  else (
   if x1 ≤ x0 then (
    some ((0 : Int32), h))
   else (
    some ((1 : Int32), h)))
set_option maxRecDepth 20000 in
theorem c_X11_within {l : Launch} {g : qa_G} {d : Nat} (x0 : Int32) (x1 : Int32) (h : qa_M) {c : Int32} {h1 : qa_M} (E : m_X11_within x0 x1 h = some (c, h1)) : qt_Met l g (yX11_within, cX11_within, 2, (some .boolean)) d 0 [.int x0, .int x1] h (some (.int c)) h1 := by
  refine qt_Met.of (plainFor_of_name (by decide)) (Nat.le_of_ble_eq_true rfl) ?_
  have G : qg_i (some (.int c)) h1 ((c, h1)) := ⟨rfl, rfl⟩
  unfold m_X11_within at E
  refine qt_iload_n 0 dX11_within_0 rfl rfl ?_
  refine qt_if_lt 13 dX11_within_1 (by decide) E (fun E => ?_) (fun E => ?_)
  · refine qt_iconst dX11_within_13 ci_0 ?_
    exact qt_zreturn rfl (Or.inl rfl) (Nat.le_of_ble_eq_true rfl) dX11_within_14 E G
  · refine qt_iload_n 0 dX11_within_4 rfl rfl ?_
    refine qt_iload_n 1 dX11_within_5 rfl rfl ?_
    refine qt_icmp_ge 13 dX11_within_6 (by decide) E (fun E => ?_) (fun E => ?_)
    · refine qt_iconst dX11_within_13 ci_0 ?_
      exact qt_zreturn rfl (Or.inl rfl) (Nat.le_of_ble_eq_true rfl) dX11_within_14 E G
    · refine qt_iconst dX11_within_9 ci_1 ?_
      refine qt_goto 14 dX11_within_10 (by decide) ?_
      exact qt_zreturn rfl (Or.inr rfl) (Nat.le_of_ble_eq_true rfl) dX11_within_14 E G
noncomputable def m_X8_write (x1 : Int32) (x2 : Int32) (x3 : Int32) (x4 : Int32) (x5 : Int32) (h : qa_M) : Option qa_M :=
  qbd ((h.1 3 1) * (5 : Int32)) (fun v6 : Int32 =>
  qck v6 50 (
  qbd (qw_I h 10 v6.toNatClampNeg x1) (fun h15 : qa_M =>
  qck (v6 + (1 : Int32)) 50 (
  qbd (qw_I h15 10 (v6 + (1 : Int32)).toNatClampNeg x2) (fun h25 : qa_M =>
  qck (v6 + (2 : Int32)) 50 (
  qbd (qw_I h25 10 (v6 + (2 : Int32)).toNatClampNeg x3) (fun h35 : qa_M =>
  qck (v6 + (3 : Int32)) 50 (
  qbd (qw_I h35 10 (v6 + (3 : Int32)).toNatClampNeg x4) (fun h46 : qa_M =>
  qck (v6 + (4 : Int32)) 50 (
  qbd (qw_I h46 10 (v6 + (4 : Int32)).toNatClampNeg x5) (fun h57 : qa_M =>
  qbd (qw_I h57 3 1 ((h57.1 3 1) + (1 : Int32))) (fun h65 : qa_M =>
  some h65))))))))))))
set_option maxRecDepth 20000 in
theorem c_X8_write {l : Launch} {g : qa_G} {d : Nat} (x1 : Int32) (x2 : Int32) (x3 : Int32) (x4 : Int32) (x5 : Int32) (h : qa_M) {h1 : qa_M} (E : m_X8_write x1 x2 x3 x4 x5 h = some h1) : qt_Met l g (yX8_write, cX8_write, 7, none) d 0 [.ref (g.1 + 3), .int x1, .int x2, .int x3, .int x4, .int x5] h none h1 := by
  refine qt_Met.of (plainFor_of_name (by decide)) (Nat.le_of_ble_eq_true rfl) ?_
  have G : qg_v none h1 (h1) := ⟨rfl, rfl⟩
  unfold m_X8_write at E
  refine qt_aload_n 0 dX8_write_0 rfl rfl ?_
  refine qt_getI (wl_3 h) fe_RX8_30 rfl dX8_write_1 ?_
  refine qt_iconst dX8_write_4 ci_5 ?_
  refine qt_imul dX8_write_5 ?_
  refine qt_istore (fun v6 => [(6, .int v6), (0, .ref (g.1 + 3)), (1, .int x1), (2, .int x2), (3, .int x3), (4, .int x4), (5, .int x5)]) dX8_write_6 (Nat.le_of_ble_eq_true rfl) (fun _ => rfl) E (fun v6 E => ?_)
  refine qt_aload_n 1 dX8_write_8 rfl rfl ?_
  refine qt_getS 10 (wl_3 h) fe_RX8_18 rfl dX8_write_9 ?_
  refine qt_iload 0 dX8_write_12 rfl ?_
  refine qt_iload_n 2 dX8_write_14 rfl rfl ?_
  refine qt_iast (wl_10 h) dX8_write_15 E (fun h15 E => ?_)
  refine qt_aload_n 1 dX8_write_16 rfl rfl ?_
  refine qt_getS 10 (wl_3 h15) fe_RX8_18 rfl dX8_write_17 ?_
  refine qt_iload 0 dX8_write_20 rfl ?_
  refine qt_iconst dX8_write_22 ci_1 ?_
  refine qt_iadd dX8_write_23 ?_
  refine qt_iload_n 3 dX8_write_24 rfl rfl ?_
  refine qt_iast (wl_10 h15) dX8_write_25 E (fun h25 E => ?_)
  refine qt_aload_n 1 dX8_write_26 rfl rfl ?_
  refine qt_getS 10 (wl_3 h25) fe_RX8_18 rfl dX8_write_27 ?_
  refine qt_iload 0 dX8_write_30 rfl ?_
  refine qt_iconst dX8_write_32 ci_2 ?_
  refine qt_iadd dX8_write_33 ?_
  refine qt_iload_n 4 dX8_write_34 rfl rfl ?_
  refine qt_iast (wl_10 h25) dX8_write_35 E (fun h35 E => ?_)
  refine qt_aload_n 1 dX8_write_36 rfl rfl ?_
  refine qt_getS 10 (wl_3 h35) fe_RX8_18 rfl dX8_write_37 ?_
  refine qt_iload 0 dX8_write_40 rfl ?_
  refine qt_iconst dX8_write_42 ci_3 ?_
  refine qt_iadd dX8_write_43 ?_
  refine qt_iload 5 dX8_write_44 rfl ?_
  refine qt_iast (wl_10 h35) dX8_write_46 E (fun h46 E => ?_)
  refine qt_aload_n 1 dX8_write_47 rfl rfl ?_
  refine qt_getS 10 (wl_3 h46) fe_RX8_18 rfl dX8_write_48 ?_
  refine qt_iload 0 dX8_write_51 rfl ?_
  refine qt_iconst dX8_write_53 ci_4 ?_
  refine qt_iadd dX8_write_54 ?_
  refine qt_iload 6 dX8_write_55 rfl ?_
  refine qt_iast (wl_10 h46) dX8_write_57 E (fun h57 E => ?_)
  refine qt_aload_n 1 dX8_write_58 rfl rfl ?_
  refine qt_dup dX8_write_59 rfl ?_
  refine qt_getI (wl_3 h57) fe_RX8_30 rfl dX8_write_60 ?_
  refine qt_iconst dX8_write_63 ci_1 ?_
  refine qt_iadd dX8_write_64 ?_
  refine qt_putI (wl_3 h57) fd_RX8_30 rfl rfl rfl dX8_write_65 E (fun h65 E => ?_)
  exact qt_vreturn rfl (Nat.le_of_ble_eq_true rfl) dX8_write_68 E G
noncomputable def f_X11_note_b71 (x1 : Int32) (x2 : Int32) (x3 : Int32) (x4 : Int32) (x5 : Int32) (s0 : Int32) (s1 : Int32) (h : qa_M) : Option (Int32 × qa_M) :=
  qbn (m_X11_within s0 s1 h) (fun (c71 : Int32) (h71 : qa_M) =>
  if c71 = 0 then (
   some ((-1 : Int32), h71))
  else (
   qbn (m_X11_within x4 (h71.1 4 4) h71) (fun (c89 : Int32) (h89 : qa_M) =>
   if c89 = 0 then (
    some ((-1 : Int32), h89))
   else (
    qbv (m_X8_write x1 x2 x3 x4 x5 h89) (fun h108 : qa_M =>
    qbd (qw_I h108 0 13 ((h108.1 0 13) + (1 : Int32))) (fun h118 : qa_M =>
    some (((h118.1 3 1) - (1 : Int32)), h118)))))))
set_option maxRecDepth 20000 in
theorem s_X11_note_b71 {l : Launch} {g : qa_G} {d : Nat} {rz : Option Value} {hz : qa_M} (x1 : Int32) (x2 : Int32) (x3 : Int32) (x4 : Int32) (x5 : Int32) (s0 : Int32) (s1 : Int32) (h : qa_M) {z : (Int32 × qa_M)} (E : f_X11_note_b71 x1 x2 x3 x4 x5 s0 s1 h = some z) (G : (qg_i rz hz) z) : qt_At l g (yX11_note, cX11_note, 6, (some .int)) (d + 1) 0 0 71 [(0, .ref (g.1 + 0)), (1, .int x1), (2, .int x2), (3, .int x3), (4, .int x4), (5, .int x5)] [.int s1, .int s0] h rz hz := by
  unfold f_X11_note_b71 at E
  obtain ⟨c71, h71, e71, E⟩ := qbn_el E
  refine qt_callSi (b2 := 0) [.int s0, .int s1] (c_X11_within s0 s1 h e71) cv_RX11_130 rfl (Nat.le_of_ble_eq_true rfl) (Nat.le_of_ble_eq_true rfl) dX11_note_71 ?_
  refine qt_if_eq 95 dX11_note_74 (by decide) E (fun E => ?_) (fun E => ?_)
  · refine qt_iconst dX11_note_95 ci_m1 ?_
    exact qt_ireturn rfl (Nat.le_of_ble_eq_true rfl) dX11_note_96 E G
  · refine qt_iload 4 dX11_note_77 rfl ?_
    refine qt_aload_n 0 dX11_note_79 rfl rfl ?_
    refine qt_getS 3 (wl_0 h71) fe_RX11_19 rfl dX11_note_80 ?_
    refine qt_getS 4 (wl_3 h71) fe_RX11_108 rfl dX11_note_83 ?_
    refine qt_getI (wl_4 h71) fe_RX11_137 rfl dX11_note_86 ?_
    obtain ⟨c89, h89, e89, E⟩ := qbn_el E
    refine qt_callSi (b2 := 0) [.int x4, .int (h71.1 4 4)] (c_X11_within x4 (h71.1 4 4) h71 e89) cv_RX11_130 rfl (Nat.le_of_ble_eq_true rfl) (Nat.le_of_ble_eq_true rfl) dX11_note_89 ?_
    refine qt_if_ne 97 dX11_note_92 (by decide) E (fun E => ?_) (fun E => ?_)
    · refine qt_aload_n 0 dX11_note_97 rfl rfl ?_
      refine qt_getS 3 (wl_0 h89) fe_RX11_19 rfl dX11_note_98 ?_
      refine qt_iload_n 1 dX11_note_101 rfl rfl ?_
      refine qt_iload_n 2 dX11_note_102 rfl rfl ?_
      refine qt_iload_n 3 dX11_note_103 rfl rfl ?_
      refine qt_iload 4 dX11_note_104 rfl ?_
      refine qt_iload 5 dX11_note_106 rfl ?_
      obtain ⟨h108, e108, E⟩ := qbv_el E
      refine qt_callVv (b2 := 0) [.int x1, .int x2, .int x3, .int x4, .int x5] (c_X8_write x1 x2 x3 x4 x5 h89 e108) cv_RX11_140 (wl_3 h89) rfl rfl rfl (Nat.le_of_ble_eq_true rfl) (Nat.le_of_ble_eq_true rfl) dX11_note_108 ?_
      refine qt_aload_n 0 dX11_note_111 rfl rfl ?_
      refine qt_dup dX11_note_112 rfl ?_
      refine qt_getI (wl_0 h108) fe_RX11_92 rfl dX11_note_113 ?_
      refine qt_iconst dX11_note_116 ci_1 ?_
      refine qt_iadd dX11_note_117 ?_
      refine qt_putI (wl_0 h108) fd_RX11_92 rfl rfl rfl dX11_note_118 E (fun h118 E => ?_)
      refine qt_aload_n 0 dX11_note_121 rfl rfl ?_
      refine qt_getS 3 (wl_0 h118) fe_RX11_19 rfl dX11_note_122 ?_
      refine qt_getI (wl_3 h118) fe_RX11_115 rfl dX11_note_125 ?_
      refine qt_iconst dX11_note_128 ci_1 ?_
      refine qt_isub dX11_note_129 ?_
      exact qt_ireturn rfl (Nat.le_of_ble_eq_true rfl) dX11_note_130 E G
    · refine qt_iconst dX11_note_95 ci_m1 ?_
      exact qt_ireturn rfl (Nat.le_of_ble_eq_true rfl) dX11_note_96 E G
noncomputable def m_X11_note (x1 : Int32) (x2 : Int32) (x3 : Int32) (x4 : Int32) (x5 : Int32) (h : qa_M) : Option (Int32 × qa_M) :=
  if (10 : Int32) ≤ (h.1 3 1) then (
   some ((-1 : Int32), h))
  else (
   qbn (m_X11_within x1 (6 : Int32) h) (fun (c15 : Int32) (h15 : qa_M) =>
   if c15 = 0 then (
    some ((-1 : Int32), h15))
   else (
    qbn (m_X11_within x2 (2 : Int32) h15) (fun (c23 : Int32) (h23 : qa_M) =>
    if c23 = 0 then (
     some ((-1 : Int32), h23))
    else (
     if x5 < (-1 : Int32) then (
      some ((-1 : Int32), h23))
     else (
      if x5 ≤ (3 : Int32) then (
       if x2 = 0 then (
        f_X11_note_b71 x1 x2 x3 x4 x5 x3 (h23.1 4 2) h23)
       else (
        f_X11_note_b71 x1 x2 x3 x4 x5 x3 (h23.1 4 3) h23))
      else (
       some ((-1 : Int32), h23))))))))
set_option maxRecDepth 20000 in
theorem c_X11_note {l : Launch} {g : qa_G} {d : Nat} (x1 : Int32) (x2 : Int32) (x3 : Int32) (x4 : Int32) (x5 : Int32) (h : qa_M) {c : Int32} {h1 : qa_M} (E : m_X11_note x1 x2 x3 x4 x5 h = some (c, h1)) : qt_Met l g (yX11_note, cX11_note, 6, (some .int)) (d + 1) 0 [.ref (g.1 + 0), .int x1, .int x2, .int x3, .int x4, .int x5] h (some (.int c)) h1 := by
  refine qt_Met.of (plainFor_of_name (by decide)) (Nat.le_of_ble_eq_true rfl) ?_
  have G : qg_i (some (.int c)) h1 ((c, h1)) := ⟨rfl, rfl⟩
  unfold m_X11_note at E
  refine qt_aload_n 0 dX11_note_0 rfl rfl ?_
  refine qt_getS 3 (wl_0 h) fe_RX11_19 rfl dX11_note_1 ?_
  refine qt_getI (wl_3 h) fe_RX11_115 rfl dX11_note_4 ?_
  refine qt_bipush dX11_note_7 cb_10 ?_
  refine qt_icmp_ge 41 dX11_note_9 (by decide) E (fun E => ?_) (fun E => ?_)
  · refine qt_iconst dX11_note_41 ci_m1 ?_
    exact qt_ireturn rfl (Nat.le_of_ble_eq_true rfl) dX11_note_42 E G
  · refine qt_iload_n 1 dX11_note_12 rfl rfl ?_
    refine qt_bipush dX11_note_13 cb_6 ?_
    obtain ⟨c15, h15, e15, E⟩ := qbn_el E
    refine qt_callSi (b2 := 0) [.int x1, .int (6 : Int32)] (c_X11_within x1 (6 : Int32) h e15) cv_RX11_130 rfl (Nat.le_of_ble_eq_true rfl) (Nat.le_of_ble_eq_true rfl) dX11_note_15 ?_
    refine qt_if_eq 41 dX11_note_18 (by decide) E (fun E => ?_) (fun E => ?_)
    · refine qt_iconst dX11_note_41 ci_m1 ?_
      exact qt_ireturn rfl (Nat.le_of_ble_eq_true rfl) dX11_note_42 E G
    · refine qt_iload_n 2 dX11_note_21 rfl rfl ?_
      refine qt_iconst dX11_note_22 ci_2 ?_
      obtain ⟨c23, h23, e23, E⟩ := qbn_el E
      refine qt_callSi (b2 := 0) [.int x2, .int (2 : Int32)] (c_X11_within x2 (2 : Int32) h15 e23) cv_RX11_130 rfl (Nat.le_of_ble_eq_true rfl) (Nat.le_of_ble_eq_true rfl) dX11_note_23 ?_
      refine qt_if_eq 41 dX11_note_26 (by decide) E (fun E => ?_) (fun E => ?_)
      · refine qt_iconst dX11_note_41 ci_m1 ?_
        exact qt_ireturn rfl (Nat.le_of_ble_eq_true rfl) dX11_note_42 E G
      · refine qt_iload 5 dX11_note_29 rfl ?_
        refine qt_iconst dX11_note_31 ci_m1 ?_
        refine qt_icmp_lt 41 dX11_note_32 (by decide) E (fun E => ?_) (fun E => ?_)
        · refine qt_iconst dX11_note_41 ci_m1 ?_
          exact qt_ireturn rfl (Nat.le_of_ble_eq_true rfl) dX11_note_42 E G
        · refine qt_iload 5 dX11_note_35 rfl ?_
          refine qt_iconst dX11_note_37 ci_3 ?_
          refine qt_icmp_le 43 dX11_note_38 (by decide) E (fun E => ?_) (fun E => ?_)
          · refine qt_iload_n 3 dX11_note_43 rfl rfl ?_
            refine qt_iload_n 2 dX11_note_44 rfl rfl ?_
            refine qt_if_ne 61 dX11_note_45 (by decide) E (fun E => ?_) (fun E => ?_)
            · refine qt_aload_n 0 dX11_note_61 rfl rfl ?_
              refine qt_getS 3 (wl_0 h23) fe_RX11_19 rfl dX11_note_62 ?_
              refine qt_getS 4 (wl_3 h23) fe_RX11_108 rfl dX11_note_65 ?_
              refine qt_getI (wl_4 h23) fe_RX11_134 rfl dX11_note_68 ?_
              exact qt_sub _ [0, 1, 2, 3, 4, 5] rfl ((s_X11_note_b71 x1 x2 x3 x4 x5 x3 (h23.1 4 3) h23 E G))
            · refine qt_aload_n 0 dX11_note_48 rfl rfl ?_
              refine qt_getS 3 (wl_0 h23) fe_RX11_19 rfl dX11_note_49 ?_
              refine qt_getS 4 (wl_3 h23) fe_RX11_108 rfl dX11_note_52 ?_
              refine qt_getI (wl_4 h23) fe_RX11_118 rfl dX11_note_55 ?_
              refine qt_goto 71 dX11_note_58 (by decide) ?_
              exact qt_sub _ [0, 1, 2, 3, 4, 5] rfl ((s_X11_note_b71 x1 x2 x3 x4 x5 x3 (h23.1 4 2) h23 E G))
          · refine qt_iconst dX11_note_41 ci_m1 ?_
            exact qt_ireturn rfl (Nat.le_of_ble_eq_true rfl) dX11_note_42 E G
noncomputable def m_X3_holds (x1 : Int32) (x2 : Int32) (h : qa_M) : Option (Int32 × qa_M) :=
  qbn (m_X11_within x1 (h.1 4 0) h) (fun (c5 : Int32) (h5 : qa_M) =>
  if c5 = 0 then (
   some ((0 : Int32), h5))
  else (
   qbn (m_X11_within x2 (h5.1 4 1) h5) (fun (c16 : Int32) (h16 : qa_M) =>
   if c16 = 0 then (
    some ((0 : Int32), h16))
   else (
    some ((1 : Int32), h16)))))
set_option maxRecDepth 20000 in
theorem c_X3_holds {l : Launch} {g : qa_G} {d : Nat} (x1 : Int32) (x2 : Int32) (h : qa_M) {c : Int32} {h1 : qa_M} (E : m_X3_holds x1 x2 h = some (c, h1)) : qt_Met l g (yX3_holds, cX3_holds, 3, (some .boolean)) (d + 1) 0 [.ref (g.1 + 4), .int x1, .int x2] h (some (.int c)) h1 := by
  refine qt_Met.of (plainFor_of_name (by decide)) (Nat.le_of_ble_eq_true rfl) ?_
  have G : qg_i (some (.int c)) h1 ((c, h1)) := ⟨rfl, rfl⟩
  unfold m_X3_holds at E
  refine qt_iload_n 1 dX3_holds_0 rfl rfl ?_
  refine qt_aload_n 0 dX3_holds_1 rfl rfl ?_
  refine qt_getI (wl_4 h) fe_RX3_28 rfl dX3_holds_2 ?_
  obtain ⟨c5, h5, e5, E⟩ := qbn_el E
  refine qt_callNi [.int x1, .int (h.1 4 0)] (c_X11_within x1 (h.1 4 0) h e5) cv_RX3_60 rfl (Nat.le_of_ble_eq_true rfl) (Nat.le_of_ble_eq_true rfl) dX3_holds_5 ?_
  refine qt_if_eq 26 dX3_holds_8 (by decide) E (fun E => ?_) (fun E => ?_)
  · refine qt_iconst dX3_holds_26 ci_0 ?_
    exact qt_zreturn rfl (Or.inl rfl) (Nat.le_of_ble_eq_true rfl) dX3_holds_27 E G
  · refine qt_iload_n 2 dX3_holds_11 rfl rfl ?_
    refine qt_aload_n 0 dX3_holds_12 rfl rfl ?_
    refine qt_getI (wl_4 h5) fe_RX3_32 rfl dX3_holds_13 ?_
    obtain ⟨c16, h16, e16, E⟩ := qbn_el E
    refine qt_callNi [.int x2, .int (h5.1 4 1)] (c_X11_within x2 (h5.1 4 1) h5 e16) cv_RX3_60 rfl (Nat.le_of_ble_eq_true rfl) (Nat.le_of_ble_eq_true rfl) dX3_holds_16 ?_
    refine qt_if_eq 26 dX3_holds_19 (by decide) E (fun E => ?_) (fun E => ?_)
    · refine qt_iconst dX3_holds_26 ci_0 ?_
      exact qt_zreturn rfl (Or.inl rfl) (Nat.le_of_ble_eq_true rfl) dX3_holds_27 E G
    · refine qt_iconst dX3_holds_22 ci_1 ?_
      refine qt_goto 27 dX3_holds_23 (by decide) ?_
      exact qt_zreturn rfl (Or.inr rfl) (Nat.le_of_ble_eq_true rfl) dX3_holds_27 E G
noncomputable def f_X3_hillsThatSee_b4 (x1 : Int32) (x2 : Int32) (x3 : Int32) (h : qa_M) : Option ((Int32 × Int32 × Int32 × qa_M) ⊕ (Int32 × qa_M)) :=
  if (h.1 4 2) ≤ x3 then (
   qup (some (x2, h)))
  else (
   qck x3 8 (
   qbd (x2 + (((q_lushr (h.2.1 7 x3.toNatClampNeg) x1) &&& (1 : Int64)).toInt32)) (fun v25 : Int32 =>
   qbd (x3 + (1 : Int32)) (fun v26 : Int32 =>
   some (.inl (x1, v25, v26, h))))))
set_option maxRecDepth 20000 in
theorem s_X3_hillsThatSee_b4 {l : Launch} {g : qa_G} {d : Nat} {rz : Option Value} {hz : qa_M} (x1 : Int32) (x2 : Int32) (x3 : Int32) (h : qa_M) {z : ((Int32 × Int32 × Int32 × qa_M) ⊕ (Int32 × qa_M))} (E : f_X3_hillsThatSee_b4 x1 x2 x3 h = some z) (G : (Sum.elim (fun (sz : Int32 × Int32 × Int32 × qa_M) => qt_At l g (yX3_hillsThatSee, cX3_hillsThatSee, 4, (some .int)) d 0 0 4 [(0, .ref (g.1 + 4)), (1, .int sz.1), (2, .int sz.2.1), (3, .int sz.2.2.1)] [] sz.2.2.2 rz hz) (qg_i rz hz)) z) : qt_At l g (yX3_hillsThatSee, cX3_hillsThatSee, 4, (some .int)) d 0 0 4 [(0, .ref (g.1 + 4)), (1, .int x1), (2, .int x2), (3, .int x3)] [] h rz hz := by
  unfold f_X3_hillsThatSee_b4 at E
  refine qt_iload_n 3 dX3_hillsThatSee_4 rfl rfl ?_
  refine qt_aload_n 0 dX3_hillsThatSee_5 rfl rfl ?_
  refine qt_getI (wl_4 h) fe_RX3_35 rfl dX3_hillsThatSee_6 ?_
  refine qt_icmp_ge 32 dX3_hillsThatSee_9 (by decide) E (fun E => ?_) (fun E => ?_)
  · refine qt_iload_n 2 dX3_hillsThatSee_32 rfl rfl ?_
    obtain ⟨z0_, E, G⟩ := qup_g E G
    exact qt_ireturn rfl (Nat.le_of_ble_eq_true rfl) dX3_hillsThatSee_33 E G
  · refine qt_iload_n 2 dX3_hillsThatSee_12 rfl rfl ?_
    refine qt_aload_n 0 dX3_hillsThatSee_13 rfl rfl ?_
    refine qt_getS 7 (wl_4 h) fe_RX3_18 rfl dX3_hillsThatSee_14 ?_
    refine qt_iload_n 3 dX3_hillsThatSee_17 rfl rfl ?_
    refine qt_lald (wl_7 h) dX3_hillsThatSee_18 E (fun E => ?_)
    refine qt_iload_n 1 dX3_hillsThatSee_19 rfl rfl ?_
    refine qt_lushr dX3_hillsThatSee_20 ?_
    refine qt_lconst dX3_hillsThatSee_21 cl_1 ?_
    refine qt_land dX3_hillsThatSee_22 ?_
    refine qt_l2i dX3_hillsThatSee_23 ?_
    refine qt_iadd dX3_hillsThatSee_24 ?_
    refine qt_istore_n (fun v25 => [(2, .int v25), (0, .ref (g.1 + 4)), (1, .int x1), (3, .int x3)]) dX3_hillsThatSee_25 rfl (Nat.le_of_ble_eq_true rfl) (fun _ => rfl) E (fun v25 E => ?_)
    refine qt_iinc 3 (fun v26 => [(3, .int v26), (2, .int v25), (0, .ref (g.1 + 4)), (1, .int x1)]) dX3_hillsThatSee_26 rfl ci_1 (Nat.le_of_ble_eq_true rfl) (fun _ => rfl) E (fun v26 E => ?_)
    refine qt_goto 4 dX3_hillsThatSee_29 (by decide) ?_
    cases E
    exact qt_sub _ [2, 3, 1, 0] rfl (G)
noncomputable def f_X3_hillsThatSee_b4_loop (x1 : Int32) (x2 : Int32) (x3 : Int32) (h : qa_M) : Option (Int32 × qa_M) := qlp (fun sz : Int32 × Int32 × Int32 × qa_M => f_X3_hillsThatSee_b4 sz.1 sz.2.1 sz.2.2.1 sz.2.2.2) (x1, x2, x3, h)
theorem s_X3_hillsThatSee_b4_loop {l : Launch} {g : qa_G} {d : Nat} {rz : Option Value} {hz : qa_M} (x1 : Int32) (x2 : Int32) (x3 : Int32) (h : qa_M) {z : (Int32 × qa_M)} (E : f_X3_hillsThatSee_b4_loop x1 x2 x3 h = some z) (G : (qg_i rz hz) z) : qt_At l g (yX3_hillsThatSee, cX3_hillsThatSee, 4, (some .int)) d 0 0 4 [(0, .ref (g.1 + 4)), (1, .int x1), (2, .int x2), (3, .int x3)] [] h rz hz :=
  qlp_ind (fun sz : Int32 × Int32 × Int32 × qa_M => qt_At l g (yX3_hillsThatSee, cX3_hillsThatSee, 4, (some .int)) d 0 0 4 [(0, .ref (g.1 + 4)), (1, .int sz.1), (2, .int sz.2.1), (3, .int sz.2.2.1)] [] sz.2.2.2 rz hz) (fun sz E => s_X3_hillsThatSee_b4 sz.1 sz.2.1 sz.2.2.1 sz.2.2.2 E G) (fun sz sz2 E ih => s_X3_hillsThatSee_b4 sz.1 sz.2.1 sz.2.2.1 sz.2.2.2 E ih) (x1, x2, x3, h) E
noncomputable def m_X3_hillsThatSee (x1 : Int32) (h : qa_M) : Option (Int32 × qa_M) :=
  qbd (0 : Int32) (fun v1 : Int32 =>
  qbd (0 : Int32) (fun v3 : Int32 =>
  f_X3_hillsThatSee_b4_loop x1 v1 v3 h))
set_option maxRecDepth 20000 in
theorem c_X3_hillsThatSee {l : Launch} {g : qa_G} {d : Nat} (x1 : Int32) (h : qa_M) {c : Int32} {h1 : qa_M} (E : m_X3_hillsThatSee x1 h = some (c, h1)) : qt_Met l g (yX3_hillsThatSee, cX3_hillsThatSee, 4, (some .int)) d 0 [.ref (g.1 + 4), .int x1] h (some (.int c)) h1 := by
  refine qt_Met.of (plainFor_of_name (by decide)) (Nat.le_of_ble_eq_true rfl) ?_
  have G : qg_i (some (.int c)) h1 ((c, h1)) := ⟨rfl, rfl⟩
  unfold m_X3_hillsThatSee at E
  refine qt_iconst dX3_hillsThatSee_0 ci_0 ?_
  refine qt_istore_n (fun v1 => [(2, .int v1), (0, .ref (g.1 + 4)), (1, .int x1)]) dX3_hillsThatSee_1 rfl (Nat.le_of_ble_eq_true rfl) (fun _ => rfl) E (fun v1 E => ?_)
  refine qt_iconst dX3_hillsThatSee_2 ci_0 ?_
  refine qt_istore_n (fun v3 => [(3, .int v3), (2, .int v1), (0, .ref (g.1 + 4)), (1, .int x1)]) dX3_hillsThatSee_3 rfl (Nat.le_of_ble_eq_true rfl) (fun _ => rfl) E (fun v3 E => ?_)
  exact qt_sub _ [2, 3, 1, 0] rfl ((s_X3_hillsThatSee_b4_loop x1 v1 v3 h E G))
noncomputable def f_X3_roadsOf_b4 (x1 : Int32) (x2 : Int32) (x3 : Int32) (h : qa_M) : Option ((Int32 × Int32 × Int32 × qa_M) ⊕ (Int32 × qa_M)) :=
  if (h.1 4 3) ≤ x3 then (
   qup (some (x2, h)))
  else (
   qck x3 6 (
   qbd (x2 + (((q_lushr (h.2.1 8 x3.toNatClampNeg) x1) &&& (1 : Int64)).toInt32)) (fun v25 : Int32 =>
   qbd (x3 + (1 : Int32)) (fun v26 : Int32 =>
   some (.inl (x1, v25, v26, h))))))
set_option maxRecDepth 20000 in
theorem s_X3_roadsOf_b4 {l : Launch} {g : qa_G} {d : Nat} {rz : Option Value} {hz : qa_M} (x1 : Int32) (x2 : Int32) (x3 : Int32) (h : qa_M) {z : ((Int32 × Int32 × Int32 × qa_M) ⊕ (Int32 × qa_M))} (E : f_X3_roadsOf_b4 x1 x2 x3 h = some z) (G : (Sum.elim (fun (sz : Int32 × Int32 × Int32 × qa_M) => qt_At l g (yX3_roadsOf, cX3_roadsOf, 4, (some .int)) d 0 0 4 [(0, .ref (g.1 + 4)), (1, .int sz.1), (2, .int sz.2.1), (3, .int sz.2.2.1)] [] sz.2.2.2 rz hz) (qg_i rz hz)) z) : qt_At l g (yX3_roadsOf, cX3_roadsOf, 4, (some .int)) d 0 0 4 [(0, .ref (g.1 + 4)), (1, .int x1), (2, .int x2), (3, .int x3)] [] h rz hz := by
  unfold f_X3_roadsOf_b4 at E
  refine qt_iload_n 3 dX3_roadsOf_4 rfl rfl ?_
  refine qt_aload_n 0 dX3_roadsOf_5 rfl rfl ?_
  refine qt_getI (wl_4 h) fe_RX3_38 rfl dX3_roadsOf_6 ?_
  refine qt_icmp_ge 32 dX3_roadsOf_9 (by decide) E (fun E => ?_) (fun E => ?_)
  · refine qt_iload_n 2 dX3_roadsOf_32 rfl rfl ?_
    obtain ⟨z0_, E, G⟩ := qup_g E G
    exact qt_ireturn rfl (Nat.le_of_ble_eq_true rfl) dX3_roadsOf_33 E G
  · refine qt_iload_n 2 dX3_roadsOf_12 rfl rfl ?_
    refine qt_aload_n 0 dX3_roadsOf_13 rfl rfl ?_
    refine qt_getS 8 (wl_4 h) fe_RX3_22 rfl dX3_roadsOf_14 ?_
    refine qt_iload_n 3 dX3_roadsOf_17 rfl rfl ?_
    refine qt_lald (wl_8 h) dX3_roadsOf_18 E (fun E => ?_)
    refine qt_iload_n 1 dX3_roadsOf_19 rfl rfl ?_
    refine qt_lushr dX3_roadsOf_20 ?_
    refine qt_lconst dX3_roadsOf_21 cl_1 ?_
    refine qt_land dX3_roadsOf_22 ?_
    refine qt_l2i dX3_roadsOf_23 ?_
    refine qt_iadd dX3_roadsOf_24 ?_
    refine qt_istore_n (fun v25 => [(2, .int v25), (0, .ref (g.1 + 4)), (1, .int x1), (3, .int x3)]) dX3_roadsOf_25 rfl (Nat.le_of_ble_eq_true rfl) (fun _ => rfl) E (fun v25 E => ?_)
    refine qt_iinc 3 (fun v26 => [(3, .int v26), (2, .int v25), (0, .ref (g.1 + 4)), (1, .int x1)]) dX3_roadsOf_26 rfl ci_1 (Nat.le_of_ble_eq_true rfl) (fun _ => rfl) E (fun v26 E => ?_)
    refine qt_goto 4 dX3_roadsOf_29 (by decide) ?_
    cases E
    exact qt_sub _ [2, 3, 1, 0] rfl (G)
noncomputable def f_X3_roadsOf_b4_loop (x1 : Int32) (x2 : Int32) (x3 : Int32) (h : qa_M) : Option (Int32 × qa_M) := qlp (fun sz : Int32 × Int32 × Int32 × qa_M => f_X3_roadsOf_b4 sz.1 sz.2.1 sz.2.2.1 sz.2.2.2) (x1, x2, x3, h)
theorem s_X3_roadsOf_b4_loop {l : Launch} {g : qa_G} {d : Nat} {rz : Option Value} {hz : qa_M} (x1 : Int32) (x2 : Int32) (x3 : Int32) (h : qa_M) {z : (Int32 × qa_M)} (E : f_X3_roadsOf_b4_loop x1 x2 x3 h = some z) (G : (qg_i rz hz) z) : qt_At l g (yX3_roadsOf, cX3_roadsOf, 4, (some .int)) d 0 0 4 [(0, .ref (g.1 + 4)), (1, .int x1), (2, .int x2), (3, .int x3)] [] h rz hz :=
  qlp_ind (fun sz : Int32 × Int32 × Int32 × qa_M => qt_At l g (yX3_roadsOf, cX3_roadsOf, 4, (some .int)) d 0 0 4 [(0, .ref (g.1 + 4)), (1, .int sz.1), (2, .int sz.2.1), (3, .int sz.2.2.1)] [] sz.2.2.2 rz hz) (fun sz E => s_X3_roadsOf_b4 sz.1 sz.2.1 sz.2.2.1 sz.2.2.2 E G) (fun sz sz2 E ih => s_X3_roadsOf_b4 sz.1 sz.2.1 sz.2.2.1 sz.2.2.2 E ih) (x1, x2, x3, h) E
noncomputable def m_X3_roadsOf (x1 : Int32) (h : qa_M) : Option (Int32 × qa_M) :=
  qbd (0 : Int32) (fun v1 : Int32 =>
  qbd (0 : Int32) (fun v3 : Int32 =>
  f_X3_roadsOf_b4_loop x1 v1 v3 h))
set_option maxRecDepth 20000 in
theorem c_X3_roadsOf {l : Launch} {g : qa_G} {d : Nat} (x1 : Int32) (h : qa_M) {c : Int32} {h1 : qa_M} (E : m_X3_roadsOf x1 h = some (c, h1)) : qt_Met l g (yX3_roadsOf, cX3_roadsOf, 4, (some .int)) d 0 [.ref (g.1 + 4), .int x1] h (some (.int c)) h1 := by
  refine qt_Met.of (plainFor_of_name (by decide)) (Nat.le_of_ble_eq_true rfl) ?_
  have G : qg_i (some (.int c)) h1 ((c, h1)) := ⟨rfl, rfl⟩
  unfold m_X3_roadsOf at E
  refine qt_iconst dX3_roadsOf_0 ci_0 ?_
  refine qt_istore_n (fun v1 => [(2, .int v1), (0, .ref (g.1 + 4)), (1, .int x1)]) dX3_roadsOf_1 rfl (Nat.le_of_ble_eq_true rfl) (fun _ => rfl) E (fun v1 E => ?_)
  refine qt_iconst dX3_roadsOf_2 ci_0 ?_
  refine qt_istore_n (fun v3 => [(3, .int v3), (2, .int v1), (0, .ref (g.1 + 4)), (1, .int x1)]) dX3_roadsOf_3 rfl (Nat.le_of_ble_eq_true rfl) (fun _ => rfl) E (fun v3 E => ?_)
  exact qt_sub _ [2, 3, 1, 0] rfl ((s_X3_roadsOf_b4_loop x1 v1 v3 h E G))
noncomputable def m_X2_grow (x0 : Int64) (h : qa_M) : Option (Int64 × qa_M) :=
  qbd ((x0 ||| (q_lshl (x0 &&& (-34905131041 : Int64)) (1 : Int32))) ||| (q_lushr (x0 &&& (-1090785346 : Int64)) (1 : Int32))) (fun v17 : Int64 =>
  some ((((v17 ||| (q_lshl v17 (6 : Int32))) ||| (q_lushr v17 (6 : Int32))) &&& (68719476735 : Int64)), h))
set_option maxRecDepth 20000 in
theorem c_X2_grow {l : Launch} {g : qa_G} {d : Nat} (x0 : Int64) (h : qa_M) {c : Int64} {h1 : qa_M} (E : m_X2_grow x0 h = some (c, h1)) : qt_Met l g (yX2_grow, cX2_grow, 4, (some .long)) d 0 [.long x0] h (some (.long c)) h1 := by
  refine qt_Met.of (plainFor_of_name (by decide)) (Nat.le_of_ble_eq_true rfl) ?_
  have G : qg_l (some (.long c)) h1 ((c, h1)) := ⟨rfl, rfl⟩
  unfold m_X2_grow at E
  refine qt_lload_n 0 dX2_grow_0 rfl rfl ?_
  refine qt_lload_n 0 dX2_grow_1 rfl rfl ?_
  refine qt_ldc2 tb_356 dX2_grow_2 ?_
  refine qt_land dX2_grow_5 ?_
  refine qt_iconst dX2_grow_6 ci_1 ?_
  refine qt_lshl dX2_grow_7 ?_
  refine qt_lor dX2_grow_8 ?_
  refine qt_lload_n 0 dX2_grow_9 rfl rfl ?_
  refine qt_ldc2 tb_357 dX2_grow_10 ?_
  refine qt_land dX2_grow_13 ?_
  refine qt_iconst dX2_grow_14 ci_1 ?_
  refine qt_lushr dX2_grow_15 ?_
  refine qt_lor dX2_grow_16 ?_
  refine qt_lstore_n (fun v17 => [(2, .long v17), (0, .long x0)]) dX2_grow_17 rfl (Nat.le_of_ble_eq_true rfl) (fun _ => rfl) E (fun v17 E => ?_)
  refine qt_lload_n 0 dX2_grow_18 rfl rfl ?_
  refine qt_lload_n 0 dX2_grow_19 rfl rfl ?_
  refine qt_bipush dX2_grow_20 cb_6 ?_
  refine qt_lshl dX2_grow_22 ?_
  refine qt_lor dX2_grow_23 ?_
  refine qt_lload_n 0 dX2_grow_24 rfl rfl ?_
  refine qt_bipush dX2_grow_25 cb_6 ?_
  refine qt_lushr dX2_grow_27 ?_
  refine qt_lor dX2_grow_28 ?_
  refine qt_ldc2 tb_358 dX2_grow_29 ?_
  refine qt_land dX2_grow_32 ?_
  exact qt_lreturn rfl (Nat.le_of_ble_eq_true rfl) dX2_grow_33 E G
noncomputable def m_J13_bitCount_95d88 (x0 : Int64) (h : qa_M) : Option (Int32 × qa_M) :=
  qbd (x0 - ((q_lushr x0 (1 : Int32)) &&& (6148914691236517205 : Int64))) (fun v9 : Int64 =>
  qbd ((v9 &&& (3689348814741910323 : Int64)) + ((q_lushr v9 (2 : Int32)) &&& (3689348814741910323 : Int64))) (fun v23 : Int64 =>
  qbd ((v23 + (q_lushr v23 (4 : Int32))) &&& (1085102592571150095 : Int64)) (fun v33 : Int64 =>
  qbd (v33 + (q_lushr v33 (8 : Int32))) (fun v40 : Int64 =>
  qbd (v40 + (q_lushr v40 (16 : Int32))) (fun v47 : Int64 =>
  qbd (v47 + (q_lushr v47 (32 : Int32))) (fun v54 : Int64 =>
  some ((v54.toInt32 &&& (127 : Int32)), h)))))))
set_option maxRecDepth 20000 in
theorem c_J13_bitCount_95d88 {l : Launch} {g : qa_G} {d : Nat} (x0 : Int64) (h : qa_M) {c : Int32} {h1 : qa_M} (E : m_J13_bitCount_95d88 x0 h = some (c, h1)) : qt_Met l g (yJ13_bitCount_95d88, cJ13_bitCount_95d88, 2, (some .int)) d 0 [.long x0] h (some (.int c)) h1 := by
  refine qt_Met.of (plainFor_of_name (by decide)) (Nat.le_of_ble_eq_true rfl) ?_
  have G : qg_i (some (.int c)) h1 ((c, h1)) := ⟨rfl, rfl⟩
  unfold m_J13_bitCount_95d88 at E
  refine qt_lload_n 0 dJ13_bitCount_95d88_0 rfl rfl ?_
  refine qt_lload_n 0 dJ13_bitCount_95d88_1 rfl rfl ?_
  refine qt_iconst dJ13_bitCount_95d88_2 ci_1 ?_
  refine qt_lushr dJ13_bitCount_95d88_3 ?_
  refine qt_ldc2 tb_896 dJ13_bitCount_95d88_4 ?_
  refine qt_land dJ13_bitCount_95d88_7 ?_
  refine qt_lsub dJ13_bitCount_95d88_8 ?_
  refine qt_lstore_n (fun v9 => [(0, .long v9)]) dJ13_bitCount_95d88_9 rfl (Nat.le_of_ble_eq_true rfl) (fun _ => rfl) E (fun v9 E => ?_)
  refine qt_lload_n 0 dJ13_bitCount_95d88_10 rfl rfl ?_
  refine qt_ldc2 tb_897 dJ13_bitCount_95d88_11 ?_
  refine qt_land dJ13_bitCount_95d88_14 ?_
  refine qt_lload_n 0 dJ13_bitCount_95d88_15 rfl rfl ?_
  refine qt_iconst dJ13_bitCount_95d88_16 ci_2 ?_
  refine qt_lushr dJ13_bitCount_95d88_17 ?_
  refine qt_ldc2 tb_897 dJ13_bitCount_95d88_18 ?_
  refine qt_land dJ13_bitCount_95d88_21 ?_
  refine qt_ladd dJ13_bitCount_95d88_22 ?_
  refine qt_lstore_n (fun v23 => [(0, .long v23)]) dJ13_bitCount_95d88_23 rfl (Nat.le_of_ble_eq_true rfl) (fun _ => rfl) E (fun v23 E => ?_)
  refine qt_lload_n 0 dJ13_bitCount_95d88_24 rfl rfl ?_
  refine qt_lload_n 0 dJ13_bitCount_95d88_25 rfl rfl ?_
  refine qt_iconst dJ13_bitCount_95d88_26 ci_4 ?_
  refine qt_lushr dJ13_bitCount_95d88_27 ?_
  refine qt_ladd dJ13_bitCount_95d88_28 ?_
  refine qt_ldc2 tb_898 dJ13_bitCount_95d88_29 ?_
  refine qt_land dJ13_bitCount_95d88_32 ?_
  refine qt_lstore_n (fun v33 => [(0, .long v33)]) dJ13_bitCount_95d88_33 rfl (Nat.le_of_ble_eq_true rfl) (fun _ => rfl) E (fun v33 E => ?_)
  refine qt_lload_n 0 dJ13_bitCount_95d88_34 rfl rfl ?_
  refine qt_lload_n 0 dJ13_bitCount_95d88_35 rfl rfl ?_
  refine qt_bipush dJ13_bitCount_95d88_36 cb_8 ?_
  refine qt_lushr dJ13_bitCount_95d88_38 ?_
  refine qt_ladd dJ13_bitCount_95d88_39 ?_
  refine qt_lstore_n (fun v40 => [(0, .long v40)]) dJ13_bitCount_95d88_40 rfl (Nat.le_of_ble_eq_true rfl) (fun _ => rfl) E (fun v40 E => ?_)
  refine qt_lload_n 0 dJ13_bitCount_95d88_41 rfl rfl ?_
  refine qt_lload_n 0 dJ13_bitCount_95d88_42 rfl rfl ?_
  refine qt_bipush dJ13_bitCount_95d88_43 cb_16 ?_
  refine qt_lushr dJ13_bitCount_95d88_45 ?_
  refine qt_ladd dJ13_bitCount_95d88_46 ?_
  refine qt_lstore_n (fun v47 => [(0, .long v47)]) dJ13_bitCount_95d88_47 rfl (Nat.le_of_ble_eq_true rfl) (fun _ => rfl) E (fun v47 E => ?_)
  refine qt_lload_n 0 dJ13_bitCount_95d88_48 rfl rfl ?_
  refine qt_lload_n 0 dJ13_bitCount_95d88_49 rfl rfl ?_
  refine qt_bipush dJ13_bitCount_95d88_50 cb_32 ?_
  refine qt_lushr dJ13_bitCount_95d88_52 ?_
  refine qt_ladd dJ13_bitCount_95d88_53 ?_
  refine qt_lstore_n (fun v54 => [(0, .long v54)]) dJ13_bitCount_95d88_54 rfl (Nat.le_of_ble_eq_true rfl) (fun _ => rfl) E (fun v54 E => ?_)
  refine qt_lload_n 0 dJ13_bitCount_95d88_55 rfl rfl ?_
  refine qt_l2i dJ13_bitCount_95d88_56 ?_
  refine qt_bipush dJ13_bitCount_95d88_57 cb_127 ?_
  refine qt_iand dJ13_bitCount_95d88_59 ?_
  exact qt_ireturn rfl (Nat.le_of_ble_eq_true rfl) dJ13_bitCount_95d88_60 E G
noncomputable def m_X3_woodsBeside (x1 : Int32) (h : qa_M) : Option (Int32 × qa_M) :=
  qbd (q_lshl (1 : Int64) x1) (fun v3 : Int64 =>
  qbn (m_X2_grow v3 h) (fun (c5 : Int64) (h5 : qa_M) =>
  qbn (m_J13_bitCount_95d88 ((c5 &&& (v3 ^^^ (-1 : Int64))) &&& (h5.2.1 4 7)) h5) (fun (c19 : Int32) (h19 : qa_M) =>
  some (c19, h19))))
set_option maxRecDepth 20000 in
theorem c_X3_woodsBeside {l : Launch} {g : qa_G} {d : Nat} (x1 : Int32) (h : qa_M) {c : Int32} {h1 : qa_M} (E : m_X3_woodsBeside x1 h = some (c, h1)) : qt_Met l g (yX3_woodsBeside, cX3_woodsBeside, 4, (some .int)) (d + 1) 0 [.ref (g.1 + 4), .int x1] h (some (.int c)) h1 := by
  refine qt_Met.of (plainFor_of_name (by decide)) (Nat.le_of_ble_eq_true rfl) ?_
  have G : qg_i (some (.int c)) h1 ((c, h1)) := ⟨rfl, rfl⟩
  unfold m_X3_woodsBeside at E
  refine qt_lconst dX3_woodsBeside_0 cl_1 ?_
  refine qt_iload_n 1 dX3_woodsBeside_1 rfl rfl ?_
  refine qt_lshl dX3_woodsBeside_2 ?_
  refine qt_lstore_n (fun v3 => [(2, .long v3), (0, .ref (g.1 + 4)), (1, .int x1)]) dX3_woodsBeside_3 rfl (Nat.le_of_ble_eq_true rfl) (fun _ => rfl) E (fun v3 E => ?_)
  refine qt_lload_n 0 dX3_woodsBeside_4 rfl rfl ?_
  obtain ⟨c5, h5, e5, E⟩ := qbn_el E
  refine qt_callSl (b2 := 0) [.long v3] (c_X2_grow v3 h e5) cv_RX3_96 rfl (Nat.le_of_ble_eq_true rfl) (Nat.le_of_ble_eq_true rfl) dX3_woodsBeside_5 ?_
  refine qt_lload_n 0 dX3_woodsBeside_8 rfl rfl ?_
  refine qt_ldc2 tb_749 dX3_woodsBeside_9 ?_
  refine qt_lxor dX3_woodsBeside_12 ?_
  refine qt_land dX3_woodsBeside_13 ?_
  refine qt_aload_n 1 dX3_woodsBeside_14 rfl rfl ?_
  refine qt_getJ (wl_4 h5) fe_RX3_51 rfl dX3_woodsBeside_15 ?_
  refine qt_land dX3_woodsBeside_18 ?_
  obtain ⟨c19, h19, e19, E⟩ := qbn_el E
  refine qt_callSi (b2 := 0) [.long ((c5 &&& (v3 ^^^ (-1 : Int64))) &&& (h5.2.1 4 7))] (c_J13_bitCount_95d88 ((c5 &&& (v3 ^^^ (-1 : Int64))) &&& (h5.2.1 4 7)) h5 e19) cv_RX3_100 rfl (Nat.le_of_ble_eq_true rfl) (Nat.le_of_ble_eq_true rfl) dX3_woodsBeside_19 ?_
  exact qt_ireturn rfl (Nat.le_of_ble_eq_true rfl) dX3_woodsBeside_22 E G
noncomputable def f_J7_fill_d0a16_b6 (x1 : Int64) (x3 : Int32) (x4 : Int32) (h : qa_M) : Option ((Int64 × Int32 × Int32 × qa_M) ⊕ qa_M) :=
  if x4 ≤ x3 then (
   qup (some h))
  else (
   qck x3 4 (
   qbd (qw_J h 24 x3.toNatClampNeg x1) (fun h15 : qa_M =>
   qbd (x3 + (1 : Int32)) (fun v16 : Int32 =>
   some (.inl (x1, v16, x4, h15))))))
set_option maxRecDepth 20000 in
theorem s_J7_fill_d0a16_b6 {l : Launch} {g : qa_G} {d : Nat} {rz : Option Value} {hz : qa_M} (x1 : Int64) (x3 : Int32) (x4 : Int32) (h : qa_M) {z : ((Int64 × Int32 × Int32 × qa_M) ⊕ qa_M)} (E : f_J7_fill_d0a16_b6 x1 x3 x4 h = some z) (G : (Sum.elim (fun (sz : Int64 × Int32 × Int32 × qa_M) => qt_At l g (yJ7_fill_d0a16, cJ7_fill_d0a16, 5, none) d 0 0 6 [(0, .ref (g.1 + 24)), (1, .long sz.1), (3, .int sz.2.1), (4, .int sz.2.2.1)] [] sz.2.2.2 rz hz) (qg_v rz hz)) z) : qt_At l g (yJ7_fill_d0a16, cJ7_fill_d0a16, 5, none) d 0 0 6 [(0, .ref (g.1 + 24)), (1, .long x1), (3, .int x3), (4, .int x4)] [] h rz hz := by
  unfold f_J7_fill_d0a16_b6 at E
  refine qt_iload_n 2 dJ7_fill_d0a16_6 rfl rfl ?_
  refine qt_iload 3 dJ7_fill_d0a16_7 rfl ?_
  refine qt_icmp_ge 22 dJ7_fill_d0a16_9 (by decide) E (fun E => ?_) (fun E => ?_)
  · obtain ⟨z0_, E, G⟩ := qup_g E G
    exact qt_vreturn rfl (Nat.le_of_ble_eq_true rfl) dJ7_fill_d0a16_22 E G
  · refine qt_aload_n 0 dJ7_fill_d0a16_12 rfl rfl ?_
    refine qt_iload_n 2 dJ7_fill_d0a16_13 rfl rfl ?_
    refine qt_lload_n 1 dJ7_fill_d0a16_14 rfl rfl ?_
    refine qt_last (wl_24 h) dJ7_fill_d0a16_15 E (fun h15 E => ?_)
    refine qt_iinc 2 (fun v16 => [(3, .int v16), (0, .ref (g.1 + 24)), (1, .long x1), (4, .int x4)]) dJ7_fill_d0a16_16 rfl ci_1 (Nat.le_of_ble_eq_true rfl) (fun _ => rfl) E (fun v16 E => ?_)
    refine qt_goto 6 dJ7_fill_d0a16_19 (by decide) ?_
    cases E
    exact qt_sub _ [1, 2, 0, 3] rfl (G)
noncomputable def f_J7_fill_d0a16_b6_loop (x1 : Int64) (x3 : Int32) (x4 : Int32) (h : qa_M) : Option qa_M := qlp (fun sz : Int64 × Int32 × Int32 × qa_M => f_J7_fill_d0a16_b6 sz.1 sz.2.1 sz.2.2.1 sz.2.2.2) (x1, x3, x4, h)
theorem s_J7_fill_d0a16_b6_loop {l : Launch} {g : qa_G} {d : Nat} {rz : Option Value} {hz : qa_M} (x1 : Int64) (x3 : Int32) (x4 : Int32) (h : qa_M) {z : qa_M} (E : f_J7_fill_d0a16_b6_loop x1 x3 x4 h = some z) (G : (qg_v rz hz) z) : qt_At l g (yJ7_fill_d0a16, cJ7_fill_d0a16, 5, none) d 0 0 6 [(0, .ref (g.1 + 24)), (1, .long x1), (3, .int x3), (4, .int x4)] [] h rz hz :=
  qlp_ind (fun sz : Int64 × Int32 × Int32 × qa_M => qt_At l g (yJ7_fill_d0a16, cJ7_fill_d0a16, 5, none) d 0 0 6 [(0, .ref (g.1 + 24)), (1, .long sz.1), (3, .int sz.2.1), (4, .int sz.2.2.1)] [] sz.2.2.2 rz hz) (fun sz E => s_J7_fill_d0a16_b6 sz.1 sz.2.1 sz.2.2.1 sz.2.2.2 E G) (fun sz sz2 E ih => s_J7_fill_d0a16_b6 sz.1 sz.2.1 sz.2.2.1 sz.2.2.2 E ih) (x1, x3, x4, h) E
noncomputable def m_J7_fill_d0a16 (x1 : Int64) (h : qa_M) : Option qa_M :=
  qbd (0 : Int32) (fun v1 : Int32 =>
  qbd (4 : Int32) (fun v4 : Int32 =>
  f_J7_fill_d0a16_b6_loop x1 v1 v4 h))
set_option maxRecDepth 20000 in
theorem c_J7_fill_d0a16 {l : Launch} {g : qa_G} {d : Nat} (x1 : Int64) (h : qa_M) {h1 : qa_M} (E : m_J7_fill_d0a16 x1 h = some h1) : qt_Met l g (yJ7_fill_d0a16, cJ7_fill_d0a16, 5, none) d 0 [.ref (g.1 + 24), .long x1] h none h1 := by
  refine qt_Met.of (plainFor_of_name (by decide)) (Nat.le_of_ble_eq_true rfl) ?_
  have G : qg_v none h1 (h1) := ⟨rfl, rfl⟩
  unfold m_J7_fill_d0a16 at E
  refine qt_iconst dJ7_fill_d0a16_0 ci_0 ?_
  refine qt_istore_n (fun v1 => [(3, .int v1), (0, .ref (g.1 + 24)), (1, .long x1)]) dJ7_fill_d0a16_1 rfl (Nat.le_of_ble_eq_true rfl) (fun _ => rfl) E (fun v1 E => ?_)
  refine qt_aload_n 1 dJ7_fill_d0a16_2 rfl rfl ?_
  refine qt_alen (v := (4 : Int32)) (by decide) (wl_24 h) cn_4 dJ7_fill_d0a16_3 ?_
  refine qt_istore (fun v4 => [(4, .int v4), (3, .int v1), (0, .ref (g.1 + 24)), (1, .long x1)]) dJ7_fill_d0a16_4 (Nat.le_of_ble_eq_true rfl) (fun _ => rfl) E (fun v4 E => ?_)
  exact qt_sub _ [2, 3, 1, 0] rfl ((s_J7_fill_d0a16_b6_loop x1 v1 v4 h E G))
noncomputable def f_J7_fill_53178_b5 (a0 : Nat) (x1 : Int32) (x2 : Int32) (x3 : Int32) (h : qa_M) : Option ((Int32 × Int32 × Int32 × qa_M) ⊕ qa_M) :=
  if x3 ≤ x2 then (
   qup (some h))
  else (
   qal 0 a0 h (fun n13 =>
   qck x2 n13 (
   qbd (qw_I h a0 x2.toNatClampNeg x1) (fun h13 : qa_M =>
   qbd (x2 + (1 : Int32)) (fun v14 : Int32 =>
   some (.inl (x1, v14, x3, h13)))))))
set_option maxRecDepth 20000 in
theorem s_J7_fill_53178_b5 {l : Launch} {g : qa_G} {d : Nat} {rz : Option Value} {hz : qa_M} (a0 : Nat) (x1 : Int32) (x2 : Int32) (x3 : Int32) (h : qa_M) {z : ((Int32 × Int32 × Int32 × qa_M) ⊕ qa_M)} (E : f_J7_fill_53178_b5 a0 x1 x2 x3 h = some z) (G : (Sum.elim (fun (sz : Int32 × Int32 × Int32 × qa_M) => qt_At l g (yJ7_fill_53178, cJ7_fill_53178, 4, none) d 0 0 5 [(0, .ref (g.1 + a0)), (1, .int sz.1), (2, .int sz.2.1), (3, .int sz.2.2.1)] [] sz.2.2.2 rz hz) (qg_v rz hz)) z) : qt_At l g (yJ7_fill_53178, cJ7_fill_53178, 4, none) d 0 0 5 [(0, .ref (g.1 + a0)), (1, .int x1), (2, .int x2), (3, .int x3)] [] h rz hz := by
  unfold f_J7_fill_53178_b5 at E
  refine qt_iload_n 2 dJ7_fill_53178_5 rfl rfl ?_
  refine qt_iload_n 3 dJ7_fill_53178_6 rfl rfl ?_
  refine qt_icmp_ge 20 dJ7_fill_53178_7 (by decide) E (fun E => ?_) (fun E => ?_)
  · obtain ⟨z0_, E, G⟩ := qup_g E G
    exact qt_vreturn rfl (Nat.le_of_ble_eq_true rfl) dJ7_fill_53178_20 E G
  · refine qt_aload_n 0 dJ7_fill_53178_10 rfl rfl ?_
    refine qt_iload_n 2 dJ7_fill_53178_11 rfl rfl ?_
    refine qt_iload_n 1 dJ7_fill_53178_12 rfl rfl ?_
    obtain ⟨n13, w13, E⟩ := qal_el E
    refine qt_iast w13 dJ7_fill_53178_13 E (fun h13 E => ?_)
    refine qt_iinc 2 (fun v14 => [(2, .int v14), (0, .ref (g.1 + a0)), (1, .int x1), (3, .int x3)]) dJ7_fill_53178_14 rfl ci_1 (Nat.le_of_ble_eq_true rfl) (fun _ => rfl) E (fun v14 E => ?_)
    refine qt_goto 5 dJ7_fill_53178_17 (by decide) ?_
    cases E
    exact qt_sub _ [1, 2, 0, 3] rfl (G)
noncomputable def f_J7_fill_53178_b5_loop (a0 : Nat) (x1 : Int32) (x2 : Int32) (x3 : Int32) (h : qa_M) : Option qa_M := qlp (fun sz : Int32 × Int32 × Int32 × qa_M => f_J7_fill_53178_b5 a0 sz.1 sz.2.1 sz.2.2.1 sz.2.2.2) (x1, x2, x3, h)
theorem s_J7_fill_53178_b5_loop {l : Launch} {g : qa_G} {d : Nat} {rz : Option Value} {hz : qa_M} (a0 : Nat) (x1 : Int32) (x2 : Int32) (x3 : Int32) (h : qa_M) {z : qa_M} (E : f_J7_fill_53178_b5_loop a0 x1 x2 x3 h = some z) (G : (qg_v rz hz) z) : qt_At l g (yJ7_fill_53178, cJ7_fill_53178, 4, none) d 0 0 5 [(0, .ref (g.1 + a0)), (1, .int x1), (2, .int x2), (3, .int x3)] [] h rz hz :=
  qlp_ind (fun sz : Int32 × Int32 × Int32 × qa_M => qt_At l g (yJ7_fill_53178, cJ7_fill_53178, 4, none) d 0 0 5 [(0, .ref (g.1 + a0)), (1, .int sz.1), (2, .int sz.2.1), (3, .int sz.2.2.1)] [] sz.2.2.2 rz hz) (fun sz E => s_J7_fill_53178_b5 a0 sz.1 sz.2.1 sz.2.2.1 sz.2.2.2 E G) (fun sz sz2 E ih => s_J7_fill_53178_b5 a0 sz.1 sz.2.1 sz.2.2.1 sz.2.2.2 E ih) (x1, x2, x3, h) E
noncomputable def m_J7_fill_53178 (a0 : Nat) (x1 : Int32) (h : qa_M) : Option qa_M :=
  qbd (0 : Int32) (fun v1 : Int32 =>
  qal 0 a0 h (fun n3 =>
  qbd (nI n3) (fun v4 : Int32 =>
  f_J7_fill_53178_b5_loop a0 x1 v1 v4 h)))
set_option maxRecDepth 20000 in
theorem c_J7_fill_53178 {l : Launch} {g : qa_G} {d : Nat} (a0 : Nat) (x1 : Int32) (h : qa_M) {h1 : qa_M} (E : m_J7_fill_53178 a0 x1 h = some h1) : qt_Met l g (yJ7_fill_53178, cJ7_fill_53178, 4, none) d 0 [.ref (g.1 + a0), .int x1] h none h1 := by
  refine qt_Met.of (plainFor_of_name (by decide)) (Nat.le_of_ble_eq_true rfl) ?_
  have G : qg_v none h1 (h1) := ⟨rfl, rfl⟩
  unfold m_J7_fill_53178 at E
  refine qt_iconst dJ7_fill_53178_0 ci_0 ?_
  refine qt_istore_n (fun v1 => [(2, .int v1), (0, .ref (g.1 + a0)), (1, .int x1)]) dJ7_fill_53178_1 rfl (Nat.le_of_ble_eq_true rfl) (fun _ => rfl) E (fun v1 E => ?_)
  refine qt_aload_n 1 dJ7_fill_53178_2 rfl rfl ?_
  obtain ⟨n3, w3, E⟩ := qal_el E
  refine qt_alen (v := nI n3) (by decide) w3 rfl dJ7_fill_53178_3 ?_
  refine qt_istore_n (fun v4 => [(3, .int v4), (2, .int v1), (0, .ref (g.1 + a0)), (1, .int x1)]) dJ7_fill_53178_4 rfl (Nat.le_of_ble_eq_true rfl) (fun _ => rfl) E (fun v4 E => ?_)
  exact qt_sub _ [2, 3, 1, 0] rfl ((s_J7_fill_53178_b5_loop a0 x1 v1 v4 h E G))
noncomputable def m_X3_toEdge (x1 : Int32) (h : qa_M) : Option (Int32 × qa_M) :=
  qbd (x1 - x1 / (6 : Int32) * (6 : Int32)) (fun v4 : Int32 =>
  qbd (x1 / (6 : Int32)) (fun v9 : Int32 =>
  some (q_min (q_min v4 (((h.1 4 0) - (1 : Int32)) - v4)) (q_min v9 (((h.1 4 1) - (1 : Int32)) - v9)), h)))
set_option maxRecDepth 20000 in
theorem c_X3_toEdge {l : Launch} {g : qa_G} {d : Nat} (x1 : Int32) (h : qa_M) {c : Int32} {h1 : qa_M} (E : m_X3_toEdge x1 h = some (c, h1)) : qt_Met l g (yX3_toEdge, cX3_toEdge, 4, (some .int)) (d + 1) 0 [.ref (g.1 + 4), .int x1] h (some (.int c)) h1 := by
  refine qt_Met.of (plainFor_of_name (by decide)) (Nat.le_of_ble_eq_true rfl) ?_
  have G : qg_i (some (.int c)) h1 ((c, h1)) := ⟨rfl, rfl⟩
  unfold m_X3_toEdge at E
  refine qt_iload_n 1 dX3_toEdge_0 rfl rfl ?_
  refine qt_bipush dX3_toEdge_1 cb_6 ?_
  refine qt_iremK dX3_toEdge_3 (by decide) ?_
  refine qt_istore_n (fun v4 => [(2, .int v4), (0, .ref (g.1 + 4)), (1, .int x1)]) dX3_toEdge_4 rfl (Nat.le_of_ble_eq_true rfl) (fun _ => rfl) E (fun v4 E => ?_)
  refine qt_iload_n 2 dX3_toEdge_5 rfl rfl ?_
  refine qt_bipush dX3_toEdge_6 cb_6 ?_
  refine qt_idivK dX3_toEdge_8 (by decide) ?_
  refine qt_istore_n (fun v9 => [(3, .int v9), (2, .int v4), (0, .ref (g.1 + 4)), (1, .int x1)]) dX3_toEdge_9 rfl (Nat.le_of_ble_eq_true rfl) (fun _ => rfl) E (fun v9 E => ?_)
  refine qt_iload_n 1 dX3_toEdge_10 rfl rfl ?_
  refine qt_aload_n 2 dX3_toEdge_11 rfl rfl ?_
  refine qt_getI (wl_4 h) fe_RX3_28 rfl dX3_toEdge_12 ?_
  refine qt_iconst dX3_toEdge_15 ci_1 ?_
  refine qt_isub dX3_toEdge_16 ?_
  refine qt_iload_n 1 dX3_toEdge_17 rfl rfl ?_
  refine qt_isub dX3_toEdge_18 ?_
  refine qt_mmin tb_929 dX3_toEdge_19 (Nat.le_of_ble_eq_true rfl) ?_
  refine qt_iload_n 0 dX3_toEdge_22 rfl rfl ?_
  refine qt_aload_n 2 dX3_toEdge_23 rfl rfl ?_
  refine qt_getI (wl_4 h) fe_RX3_32 rfl dX3_toEdge_24 ?_
  refine qt_iconst dX3_toEdge_27 ci_1 ?_
  refine qt_isub dX3_toEdge_28 ?_
  refine qt_iload_n 0 dX3_toEdge_29 rfl rfl ?_
  refine qt_isub dX3_toEdge_30 ?_
  refine qt_mmin tb_929 dX3_toEdge_31 (Nat.le_of_ble_eq_true rfl) ?_
  refine qt_mmin tb_929 dX3_toEdge_34 (Nat.le_of_ble_eq_true rfl) ?_
  exact qt_ireturn rfl (Nat.le_of_ble_eq_true rfl) dX3_toEdge_37 E G
noncomputable def f_X5_learn_b61 (a0 : Nat) (x2 : Int32) (s0 : Nat) (s1 : Int32) (s2 : Int32) (h : qa_M) : Option qa_M :=
  qal 0 s0 h (fun n61 =>
  qck s1 n61 (
  qbd (qw_I h s0 s1.toNatClampNeg s2) (fun h61 : qa_M =>
  qbn (m_X3_roadsOf x2 h61) (fun (c69 : Int32) (h69 : qa_M) =>
  qck (5 : Int32) 7 (
  qbd (qw_I h69 (a0 + 8) (5 : Int32).toNatClampNeg c69) (fun h72 : qa_M =>
  qbn (m_X3_toEdge x2 h72) (fun (c81 : Int32) (h81 : qa_M) =>
  qck (6 : Int32) 7 (
  qbd (qw_I h81 (a0 + 8) (6 : Int32).toNatClampNeg c81) (fun h84 : qa_M =>
  some h84)))))))))
set_option maxRecDepth 20000 in
theorem s_X5_learn_b61 {l : Launch} {g : qa_G} {d : Nat} {rz : Option Value} {hz : qa_M} (a0 : Nat) (ha0 : qLaw a0) (x2 : Int32) (s0 : Nat) (s1 : Int32) (s2 : Int32) (h : qa_M) {z : qa_M} (E : f_X5_learn_b61 a0 x2 s0 s1 s2 h = some z) (G : (qg_v rz hz) z) : qt_At l g (yX5_learn, cX5_learn, 3, none) (d + 2) 0 0 61 [(0, .ref (g.1 + a0)), (1, .ref (g.1 + 4)), (2, .int x2)] [.int s2, .int s1, .ref (g.1 + s0)] h rz hz := by
  unfold f_X5_learn_b61 at E
  obtain ⟨n61, w61, E⟩ := qal_el E
  refine qt_iast w61 dX5_learn_61 E (fun h61 E => ?_)
  refine qt_aload_n 0 dX5_learn_62 rfl rfl ?_
  refine qt_getS (a0 + 8) (wl_Law_0 ha0 h61) fe_RX5_36 rfl dX5_learn_63 ?_
  refine qt_iconst dX5_learn_66 ci_5 ?_
  refine qt_aload_n 1 dX5_learn_67 rfl rfl ?_
  refine qt_iload_n 2 dX5_learn_68 rfl rfl ?_
  obtain ⟨c69, h69, e69, E⟩ := qbn_el E
  refine qt_callVi (b2 := 0) [.int x2] (c_X3_roadsOf x2 h61 e69) cv_RX5_73 (wl_4 h61) rfl rfl rfl (Nat.le_of_ble_eq_true rfl) (Nat.le_of_ble_eq_true rfl) dX5_learn_69 ?_
  refine qt_iast (wl_Law_8 ha0 h69) dX5_learn_72 E (fun h72 E => ?_)
  refine qt_aload_n 0 dX5_learn_73 rfl rfl ?_
  refine qt_getS (a0 + 8) (wl_Law_0 ha0 h72) fe_RX5_36 rfl dX5_learn_74 ?_
  refine qt_bipush dX5_learn_77 cb_6 ?_
  refine qt_aload_n 1 dX5_learn_79 rfl rfl ?_
  refine qt_iload_n 2 dX5_learn_80 rfl rfl ?_
  obtain ⟨c81, h81, e81, E⟩ := qbn_el E
  refine qt_callVi (b2 := 0) [.int x2] (c_X3_toEdge x2 h72 e81) cv_RX5_76 (wl_4 h72) rfl rfl rfl (Nat.le_of_ble_eq_true rfl) (Nat.le_of_ble_eq_true rfl) dX5_learn_81 ?_
  refine qt_iast (wl_Law_8 ha0 h81) dX5_learn_84 E (fun h84 E => ?_)
  exact qt_vreturn rfl (Nat.le_of_ble_eq_true rfl) dX5_learn_85 E G
noncomputable def m_X5_learn (a0 : Nat) (x2 : Int32) (h : qa_M) : Option qa_M :=
  qck (0 : Int32) 7 (
  qbd (qw_I h (a0 + 8) (0 : Int32).toNatClampNeg (x2 - x2 / (6 : Int32) * (6 : Int32))) (fun h9 : qa_M =>
  qck (1 : Int32) 7 (
  qbd (qw_I h9 (a0 + 8) (1 : Int32).toNatClampNeg (x2 / (6 : Int32))) (fun h19 : qa_M =>
  qbn (m_X3_woodsBeside x2 h19) (fun (c27 : Int32) (h27 : qa_M) =>
  qck (2 : Int32) 7 (
  qbd (qw_I h27 (a0 + 8) (2 : Int32).toNatClampNeg c27) (fun h30 : qa_M =>
  qbn (m_X3_hillsThatSee x2 h30) (fun (c38 : Int32) (h38 : qa_M) =>
  qck (3 : Int32) 7 (
  qbd (qw_I h38 (a0 + 8) (3 : Int32).toNatClampNeg c38) (fun h41 : qa_M =>
  qbn (m_X3_hillOn 4 x2 h41) (fun (c49 : Int32) (h49 : qa_M) =>
  if c49 = (-1 : Int32) then (
   f_X5_learn_b61 a0 x2 (a0 + 8) (4 : Int32) (0 : Int32) h49)
  else (
   f_X5_learn_b61 a0 x2 (a0 + 8) (4 : Int32) (1 : Int32) h49))))))))))))
set_option maxRecDepth 20000 in
theorem c_X5_learn {l : Launch} {g : qa_G} {d : Nat} (a0 : Nat) (x2 : Int32) (h : qa_M) (ha0 : qLaw a0) {h1 : qa_M} (E : m_X5_learn a0 x2 h = some h1) : qt_Met l g (yX5_learn, cX5_learn, 3, none) (d + 2) 0 [.ref (g.1 + a0), .ref (g.1 + 4), .int x2] h none h1 := by
  refine qt_Met.of (plainFor_of_name (by decide)) (Nat.le_of_ble_eq_true rfl) ?_
  have G : qg_v none h1 (h1) := ⟨rfl, rfl⟩
  unfold m_X5_learn at E
  refine qt_aload_n 0 dX5_learn_0 rfl rfl ?_
  refine qt_getS (a0 + 8) (wl_Law_0 ha0 h) fe_RX5_36 rfl dX5_learn_1 ?_
  refine qt_iconst dX5_learn_4 ci_0 ?_
  refine qt_iload_n 2 dX5_learn_5 rfl rfl ?_
  refine qt_bipush dX5_learn_6 cb_6 ?_
  refine qt_iremK dX5_learn_8 (by decide) ?_
  refine qt_iast (wl_Law_8 ha0 h) dX5_learn_9 E (fun h9 E => ?_)
  refine qt_aload_n 0 dX5_learn_10 rfl rfl ?_
  refine qt_getS (a0 + 8) (wl_Law_0 ha0 h9) fe_RX5_36 rfl dX5_learn_11 ?_
  refine qt_iconst dX5_learn_14 ci_1 ?_
  refine qt_iload_n 2 dX5_learn_15 rfl rfl ?_
  refine qt_bipush dX5_learn_16 cb_6 ?_
  refine qt_idivK dX5_learn_18 (by decide) ?_
  refine qt_iast (wl_Law_8 ha0 h9) dX5_learn_19 E (fun h19 E => ?_)
  refine qt_aload_n 0 dX5_learn_20 rfl rfl ?_
  refine qt_getS (a0 + 8) (wl_Law_0 ha0 h19) fe_RX5_36 rfl dX5_learn_21 ?_
  refine qt_iconst dX5_learn_24 ci_2 ?_
  refine qt_aload_n 1 dX5_learn_25 rfl rfl ?_
  refine qt_iload_n 2 dX5_learn_26 rfl rfl ?_
  obtain ⟨c27, h27, e27, E⟩ := qbn_el E
  refine qt_callVi (b2 := 0) [.int x2] (c_X3_woodsBeside x2 h19 e27) cv_RX5_63 (wl_4 h19) rfl rfl rfl (Nat.le_of_ble_eq_true rfl) (Nat.le_of_ble_eq_true rfl) dX5_learn_27 ?_
  refine qt_iast (wl_Law_8 ha0 h27) dX5_learn_30 E (fun h30 E => ?_)
  refine qt_aload_n 0 dX5_learn_31 rfl rfl ?_
  refine qt_getS (a0 + 8) (wl_Law_0 ha0 h30) fe_RX5_36 rfl dX5_learn_32 ?_
  refine qt_iconst dX5_learn_35 ci_3 ?_
  refine qt_aload_n 1 dX5_learn_36 rfl rfl ?_
  refine qt_iload_n 2 dX5_learn_37 rfl rfl ?_
  obtain ⟨c38, h38, e38, E⟩ := qbn_el E
  refine qt_callVi (b2 := 0) [.int x2] (c_X3_hillsThatSee x2 h30 e38) cv_RX5_67 (wl_4 h30) rfl rfl rfl (Nat.le_of_ble_eq_true rfl) (Nat.le_of_ble_eq_true rfl) dX5_learn_38 ?_
  refine qt_iast (wl_Law_8 ha0 h38) dX5_learn_41 E (fun h41 E => ?_)
  refine qt_aload_n 0 dX5_learn_42 rfl rfl ?_
  refine qt_getS (a0 + 8) (wl_Law_0 ha0 h41) fe_RX5_36 rfl dX5_learn_43 ?_
  refine qt_iconst dX5_learn_46 ci_4 ?_
  refine qt_aload_n 1 dX5_learn_47 rfl rfl ?_
  refine qt_iload_n 2 dX5_learn_48 rfl rfl ?_
  obtain ⟨c49, h49, e49, E⟩ := qbn_el E
  refine qt_callVi (b2 := 0) [.int x2] (c_X3_hillOn 4 x2 h41 (show qLand 4 by unfold qLand; decide) e49) cv_RX5_70 (wl_4 h41) rfl rfl rfl (Nat.le_of_ble_eq_true rfl) (Nat.le_of_ble_eq_true rfl) dX5_learn_49 ?_
  refine qt_iconst dX5_learn_52 ci_m1 ?_
  refine qt_icmp_ne 60 dX5_learn_53 (by decide) E (fun E => ?_) (fun E => ?_)
  · refine qt_iconst dX5_learn_60 ci_1 ?_
    exact qt_sub _ [0, 1, 2] rfl ((s_X5_learn_b61 a0 ha0 x2 (a0 + 8) (4 : Int32) (1 : Int32) h49 E G))
  · refine qt_iconst dX5_learn_56 ci_0 ?_
    refine qt_goto 61 dX5_learn_57 (by decide) ?_
    exact qt_sub _ [0, 1, 2] rfl ((s_X5_learn_b61 a0 ha0 x2 (a0 + 8) (4 : Int32) (0 : Int32) h49 E G))
noncomputable def m_X5_compare (x0 : Int32) (x1 : Int64) (x3 : Int64) (h : qa_M) : Option (Int32 × qa_M) :=
  if x0 = (-18 : Int32) then (
   if x1 < x3 then (
    some ((0 : Int32), h))
   else (
    some ((1 : Int32), h)))
  else (
  if x0 = (-17 : Int32) then (
   if x1 = x3 then (
    some ((1 : Int32), h))
   else (
    some ((0 : Int32), h)))
  else (
  if x0 = (-16 : Int32) then (
   if x3 < x1 then (
    some ((0 : Int32), h))
   else (
    some ((1 : Int32), h)))
  else (
  if x0 = (-15 : Int32) then (
   if x3 ≤ x1 then (
    some ((0 : Int32), h))
   else (
    some ((1 : Int32), h)))
  else (
  if x1 ≤ x3 then (
   some ((0 : Int32), h))
  else (
   some ((1 : Int32), h))))))
set_option maxRecDepth 20000 in
theorem c_X5_compare {l : Launch} {g : qa_G} {d : Nat} (x0 : Int32) (x1 : Int64) (x3 : Int64) (h : qa_M) {c : Int32} {h1 : qa_M} (E : m_X5_compare x0 x1 x3 h = some (c, h1)) : qt_Met l g (yX5_compare, cX5_compare, 5, (some .boolean)) d 0 [.int x0, .long x1, .long x3] h (some (.int c)) h1 := by
  refine qt_Met.of (plainFor_of_name (by decide)) (Nat.le_of_ble_eq_true rfl) ?_
  have G : qg_i (some (.int c)) h1 ((c, h1)) := ⟨rfl, rfl⟩
  unfold m_X5_compare at E
  refine qt_iload_n 0 dX5_compare_0 rfl rfl ?_
  by_cases c1_0 : x0 = (-18 : Int32)
  · replace E := qif_t c1_0 E
    refine qt_tabIn (off := 67) 68 dX5_compare_1 c1_0 (by decide) (by decide) rfl (by decide) ?_
    refine qt_lload_n 1 dX5_compare_68 rfl rfl ?_
    refine qt_lload_n 2 dX5_compare_69 rfl rfl ?_
    refine qt_lc_lt 78 dX5_compare_70 dX5_compare_71 (by decide) E (fun E => ?_) (fun E => ?_)
    · refine qt_iconst dX5_compare_78 ci_0 ?_
      exact qt_zreturn rfl (Or.inl rfl) (Nat.le_of_ble_eq_true rfl) dX5_compare_79 E G
    · refine qt_iconst dX5_compare_74 ci_1 ?_
      refine qt_goto 79 dX5_compare_75 (by decide) ?_
      exact qt_zreturn rfl (Or.inr rfl) (Nat.le_of_ble_eq_true rfl) dX5_compare_79 E G
  replace E := qif_f c1_0 E
  by_cases c1_1 : x0 = (-17 : Int32)
  · replace E := qif_t c1_1 E
    refine qt_tabIn (off := 55) 56 dX5_compare_1 c1_1 (by decide) (by decide) rfl (by decide) ?_
    refine qt_lload_n 1 dX5_compare_56 rfl rfl ?_
    refine qt_lload_n 2 dX5_compare_57 rfl rfl ?_
    refine qt_lc_ne 66 dX5_compare_58 dX5_compare_59 (by decide) E (fun E => ?_) (fun E => ?_)
    · refine qt_iconst dX5_compare_66 ci_0 ?_
      exact qt_zreturn rfl (Or.inl rfl) (Nat.le_of_ble_eq_true rfl) dX5_compare_67 E G
    · refine qt_iconst dX5_compare_62 ci_1 ?_
      refine qt_goto 67 dX5_compare_63 (by decide) ?_
      exact qt_zreturn rfl (Or.inr rfl) (Nat.le_of_ble_eq_true rfl) dX5_compare_67 E G
  replace E := qif_f c1_1 E
  by_cases c1_2 : x0 = (-16 : Int32)
  · replace E := qif_t c1_2 E
    refine qt_tabIn (off := 43) 44 dX5_compare_1 c1_2 (by decide) (by decide) rfl (by decide) ?_
    refine qt_lload_n 1 dX5_compare_44 rfl rfl ?_
    refine qt_lload_n 2 dX5_compare_45 rfl rfl ?_
    refine qt_lc_gt 54 dX5_compare_46 dX5_compare_47 (by decide) E (fun E => ?_) (fun E => ?_)
    · refine qt_iconst dX5_compare_54 ci_0 ?_
      exact qt_zreturn rfl (Or.inl rfl) (Nat.le_of_ble_eq_true rfl) dX5_compare_55 E G
    · refine qt_iconst dX5_compare_50 ci_1 ?_
      refine qt_goto 55 dX5_compare_51 (by decide) ?_
      exact qt_zreturn rfl (Or.inr rfl) (Nat.le_of_ble_eq_true rfl) dX5_compare_55 E G
  replace E := qif_f c1_2 E
  by_cases c1_3 : x0 = (-15 : Int32)
  · replace E := qif_t c1_3 E
    refine qt_tabIn (off := 31) 32 dX5_compare_1 c1_3 (by decide) (by decide) rfl (by decide) ?_
    refine qt_lload_n 1 dX5_compare_32 rfl rfl ?_
    refine qt_lload_n 2 dX5_compare_33 rfl rfl ?_
    refine qt_lc_ge 42 dX5_compare_34 dX5_compare_35 (by decide) E (fun E => ?_) (fun E => ?_)
    · refine qt_iconst dX5_compare_42 ci_0 ?_
      exact qt_zreturn rfl (Or.inl rfl) (Nat.le_of_ble_eq_true rfl) dX5_compare_43 E G
    · refine qt_iconst dX5_compare_38 ci_1 ?_
      refine qt_goto 43 dX5_compare_39 (by decide) ?_
      exact qt_zreturn rfl (Or.inr rfl) (Nat.le_of_ble_eq_true rfl) dX5_compare_43 E G
  replace E := qif_f c1_3 E
  have e1_0 : (x0 : Int32).toInt ≠ (-18) := fun q => c1_0 (Int32.toInt_inj.mp (q.trans (by decide)))
  have e1_1 : (x0 : Int32).toInt ≠ (-17) := fun q => c1_1 (Int32.toInt_inj.mp (q.trans (by decide)))
  have e1_2 : (x0 : Int32).toInt ≠ (-16) := fun q => c1_2 (Int32.toInt_inj.mp (q.trans (by decide)))
  have e1_3 : (x0 : Int32).toInt ≠ (-15) := fun q => c1_3 (Int32.toInt_inj.mp (q.trans (by decide)))
  refine qt_tabOut 80 dX5_compare_1 (by omega) (by decide) ?_
  refine qt_lload_n 1 dX5_compare_80 rfl rfl ?_
  refine qt_lload_n 2 dX5_compare_81 rfl rfl ?_
  refine qt_lc_le 90 dX5_compare_82 dX5_compare_83 (by decide) E (fun E => ?_) (fun E => ?_)
  · refine qt_iconst dX5_compare_90 ci_0 ?_
    exact qt_zreturn rfl (Or.inl rfl) (Nat.le_of_ble_eq_true rfl) dX5_compare_91 E G
  · refine qt_iconst dX5_compare_86 ci_1 ?_
    refine qt_goto 91 dX5_compare_87 (by decide) ?_
    exact qt_zreturn rfl (Or.inr rfl) (Nat.le_of_ble_eq_true rfl) dX5_compare_91 E G
noncomputable def f_X5_join_b94 (x0 : Int32) (x1 : Int64) (x3 : Int64) (h : qa_M) : Option (Int64 × qa_M) :=
  qbn (m_X5_compare x0 x1 x3 h) (fun (c97 : Int32) (h97 : qa_M) =>
  if c97 = 0 then (
   some ((0 : Int64), h97))
  else (
   some ((1 : Int64), h97)))
set_option maxRecDepth 20000 in
theorem s_X5_join_b94 {l : Launch} {g : qa_G} {d : Nat} {rz : Option Value} {hz : qa_M} (x0 : Int32) (x1 : Int64) (x3 : Int64) (h : qa_M) {z : (Int64 × qa_M)} (E : f_X5_join_b94 x0 x1 x3 h = some z) (G : (qg_l rz hz) z) : qt_At l g (yX5_join, cX5_join, 5, (some .long)) (d + 1) 0 0 94 [(0, .int x0), (1, .long x1), (3, .long x3)] [] h rz hz := by
  unfold f_X5_join_b94 at E
  refine qt_iload_n 0 dX5_join_94 rfl rfl ?_
  refine qt_lload_n 1 dX5_join_95 rfl rfl ?_
  refine qt_lload_n 2 dX5_join_96 rfl rfl ?_
  obtain ⟨c97, h97, e97, E⟩ := qbn_el E
  refine qt_callSi (b2 := 0) [.int x0, .long x1, .long x3] (c_X5_compare x0 x1 x3 h e97) cv_RX5_83 rfl (Nat.le_of_ble_eq_true rfl) (Nat.le_of_ble_eq_true rfl) dX5_join_97 ?_
  refine qt_if_eq 107 dX5_join_100 (by decide) E (fun E => ?_) (fun E => ?_)
  · refine qt_lconst dX5_join_107 cl_0 ?_
    exact qt_lreturn rfl (Nat.le_of_ble_eq_true rfl) dX5_join_108 E G
  · refine qt_lconst dX5_join_103 cl_1 ?_
    refine qt_goto 108 dX5_join_104 (by decide) ?_
    exact qt_lreturn rfl (Nat.le_of_ble_eq_true rfl) dX5_join_108 E G
noncomputable def m_X5_join (x0 : Int32) (x1 : Int64) (x3 : Int64) (h : qa_M) : Option (Int64 × qa_M) :=
  if x0 = (-21 : Int32) then (
   some ((x1 ||| x3), h))
  else (
  if x0 = (-20 : Int32) then (
   some ((x1 &&& x3), h))
  else (
  if x0 = (-19 : Int32) then (
   f_X5_join_b94 x0 x1 x3 h)
  else (
  if x0 = (-18 : Int32) then (
   f_X5_join_b94 x0 x1 x3 h)
  else (
  if x0 = (-17 : Int32) then (
   f_X5_join_b94 x0 x1 x3 h)
  else (
  if x0 = (-16 : Int32) then (
   f_X5_join_b94 x0 x1 x3 h)
  else (
  if x0 = (-15 : Int32) then (
   f_X5_join_b94 x0 x1 x3 h)
  else (
  if x0 = (-14 : Int32) then (
   if x3 = (0 : Int64) then (
    some ((0 : Int64), h))
   else (
    qnz (x3 = 0) (
    some ((x1 / x3), h))))
  else (
  if x0 = (-13 : Int32) then (
   some ((x1 * x3), h))
  else (
  if x0 = (-12 : Int32) then (
   some ((x1 - x3), h))
  else (
  if x0 = (-11 : Int32) then (
   some ((x1 + x3), h))
  else (
  f_X5_join_b94 x0 x1 x3 h)))))))))))
set_option maxRecDepth 20000 in
theorem c_X5_join {l : Launch} {g : qa_G} {d : Nat} (x0 : Int32) (x1 : Int64) (x3 : Int64) (h : qa_M) {c : Int64} {h1 : qa_M} (E : m_X5_join x0 x1 x3 h = some (c, h1)) : qt_Met l g (yX5_join, cX5_join, 5, (some .long)) (d + 1) 0 [.int x0, .long x1, .long x3] h (some (.long c)) h1 := by
  refine qt_Met.of (plainFor_of_name (by decide)) (Nat.le_of_ble_eq_true rfl) ?_
  have G : qg_l (some (.long c)) h1 ((c, h1)) := ⟨rfl, rfl⟩
  unfold m_X5_join at E
  refine qt_iload_n 0 dX5_join_0 rfl rfl ?_
  by_cases c1_0 : x0 = (-21 : Int32)
  · replace E := qif_t c1_0 E
    refine qt_tabIn (off := 89) 90 dX5_join_1 c1_0 (by decide) (by decide) rfl (by decide) ?_
    refine qt_lload_n 1 dX5_join_90 rfl rfl ?_
    refine qt_lload_n 2 dX5_join_91 rfl rfl ?_
    refine qt_lor dX5_join_92 ?_
    exact qt_lreturn rfl (Nat.le_of_ble_eq_true rfl) dX5_join_93 E G
  replace E := qif_f c1_0 E
  by_cases c1_1 : x0 = (-20 : Int32)
  · replace E := qif_t c1_1 E
    refine qt_tabIn (off := 85) 86 dX5_join_1 c1_1 (by decide) (by decide) rfl (by decide) ?_
    refine qt_lload_n 1 dX5_join_86 rfl rfl ?_
    refine qt_lload_n 2 dX5_join_87 rfl rfl ?_
    refine qt_land dX5_join_88 ?_
    exact qt_lreturn rfl (Nat.le_of_ble_eq_true rfl) dX5_join_89 E G
  replace E := qif_f c1_1 E
  by_cases c1_2 : x0 = (-19 : Int32)
  · replace E := qif_t c1_2 E
    refine qt_tabIn (off := 93) 94 dX5_join_1 c1_2 (by decide) (by decide) rfl (by decide) ?_
    exact qt_sub _ [0, 1, 2] rfl ((s_X5_join_b94 x0 x1 x3 h E G))
  replace E := qif_f c1_2 E
  by_cases c1_3 : x0 = (-18 : Int32)
  · replace E := qif_t c1_3 E
    refine qt_tabIn (off := 93) 94 dX5_join_1 c1_3 (by decide) (by decide) rfl (by decide) ?_
    exact qt_sub _ [0, 1, 2] rfl ((s_X5_join_b94 x0 x1 x3 h E G))
  replace E := qif_f c1_3 E
  by_cases c1_4 : x0 = (-17 : Int32)
  · replace E := qif_t c1_4 E
    refine qt_tabIn (off := 93) 94 dX5_join_1 c1_4 (by decide) (by decide) rfl (by decide) ?_
    exact qt_sub _ [0, 1, 2] rfl ((s_X5_join_b94 x0 x1 x3 h E G))
  replace E := qif_f c1_4 E
  by_cases c1_5 : x0 = (-16 : Int32)
  · replace E := qif_t c1_5 E
    refine qt_tabIn (off := 93) 94 dX5_join_1 c1_5 (by decide) (by decide) rfl (by decide) ?_
    exact qt_sub _ [0, 1, 2] rfl ((s_X5_join_b94 x0 x1 x3 h E G))
  replace E := qif_f c1_5 E
  by_cases c1_6 : x0 = (-15 : Int32)
  · replace E := qif_t c1_6 E
    refine qt_tabIn (off := 93) 94 dX5_join_1 c1_6 (by decide) (by decide) rfl (by decide) ?_
    exact qt_sub _ [0, 1, 2] rfl ((s_X5_join_b94 x0 x1 x3 h E G))
  replace E := qif_f c1_6 E
  by_cases c1_7 : x0 = (-14 : Int32)
  · replace E := qif_t c1_7 E
    refine qt_tabIn (off := 71) 72 dX5_join_1 c1_7 (by decide) (by decide) rfl (by decide) ?_
    refine qt_lload_n 2 dX5_join_72 rfl rfl ?_
    refine qt_lconst dX5_join_73 cl_0 ?_
    refine qt_lc_ne 82 dX5_join_74 dX5_join_75 (by decide) E (fun E => ?_) (fun E => ?_)
    · refine qt_lload_n 1 dX5_join_82 rfl rfl ?_
      refine qt_lload_n 2 dX5_join_83 rfl rfl ?_
      refine qt_ldiv dX5_join_84 E (fun E => ?_)
      exact qt_lreturn rfl (Nat.le_of_ble_eq_true rfl) dX5_join_85 E G
    · refine qt_lconst dX5_join_78 cl_0 ?_
      refine qt_goto 85 dX5_join_79 (by decide) ?_
      exact qt_lreturn rfl (Nat.le_of_ble_eq_true rfl) dX5_join_85 E G
  replace E := qif_f c1_7 E
  by_cases c1_8 : x0 = (-13 : Int32)
  · replace E := qif_t c1_8 E
    refine qt_tabIn (off := 67) 68 dX5_join_1 c1_8 (by decide) (by decide) rfl (by decide) ?_
    refine qt_lload_n 1 dX5_join_68 rfl rfl ?_
    refine qt_lload_n 2 dX5_join_69 rfl rfl ?_
    refine qt_lmul dX5_join_70 ?_
    exact qt_lreturn rfl (Nat.le_of_ble_eq_true rfl) dX5_join_71 E G
  replace E := qif_f c1_8 E
  by_cases c1_9 : x0 = (-12 : Int32)
  · replace E := qif_t c1_9 E
    refine qt_tabIn (off := 63) 64 dX5_join_1 c1_9 (by decide) (by decide) rfl (by decide) ?_
    refine qt_lload_n 1 dX5_join_64 rfl rfl ?_
    refine qt_lload_n 2 dX5_join_65 rfl rfl ?_
    refine qt_lsub dX5_join_66 ?_
    exact qt_lreturn rfl (Nat.le_of_ble_eq_true rfl) dX5_join_67 E G
  replace E := qif_f c1_9 E
  by_cases c1_10 : x0 = (-11 : Int32)
  · replace E := qif_t c1_10 E
    refine qt_tabIn (off := 59) 60 dX5_join_1 c1_10 (by decide) (by decide) rfl (by decide) ?_
    refine qt_lload_n 1 dX5_join_60 rfl rfl ?_
    refine qt_lload_n 2 dX5_join_61 rfl rfl ?_
    refine qt_ladd dX5_join_62 ?_
    exact qt_lreturn rfl (Nat.le_of_ble_eq_true rfl) dX5_join_63 E G
  replace E := qif_f c1_10 E
  have e1_0 : (x0 : Int32).toInt ≠ (-21) := fun q => c1_0 (Int32.toInt_inj.mp (q.trans (by decide)))
  have e1_1 : (x0 : Int32).toInt ≠ (-20) := fun q => c1_1 (Int32.toInt_inj.mp (q.trans (by decide)))
  have e1_2 : (x0 : Int32).toInt ≠ (-19) := fun q => c1_2 (Int32.toInt_inj.mp (q.trans (by decide)))
  have e1_3 : (x0 : Int32).toInt ≠ (-18) := fun q => c1_3 (Int32.toInt_inj.mp (q.trans (by decide)))
  have e1_4 : (x0 : Int32).toInt ≠ (-17) := fun q => c1_4 (Int32.toInt_inj.mp (q.trans (by decide)))
  have e1_5 : (x0 : Int32).toInt ≠ (-16) := fun q => c1_5 (Int32.toInt_inj.mp (q.trans (by decide)))
  have e1_6 : (x0 : Int32).toInt ≠ (-15) := fun q => c1_6 (Int32.toInt_inj.mp (q.trans (by decide)))
  have e1_7 : (x0 : Int32).toInt ≠ (-14) := fun q => c1_7 (Int32.toInt_inj.mp (q.trans (by decide)))
  have e1_8 : (x0 : Int32).toInt ≠ (-13) := fun q => c1_8 (Int32.toInt_inj.mp (q.trans (by decide)))
  have e1_9 : (x0 : Int32).toInt ≠ (-12) := fun q => c1_9 (Int32.toInt_inj.mp (q.trans (by decide)))
  have e1_10 : (x0 : Int32).toInt ≠ (-11) := fun q => c1_10 (Int32.toInt_inj.mp (q.trans (by decide)))
  refine qt_tabOut 94 dX5_join_1 (by omega) (by decide) ?_
  exact qt_sub _ [0, 1, 2] rfl ((s_X5_join_b94 x0 x1 x3 h E G))
noncomputable def f_X5_isTrue_b142 (a0 : Nat) (x3 : Int32) (h : qa_M) : Option (Int32 × qa_M) :=
  if x3 ≤ 0 then (
   some ((0 : Int32), h))
  else (
   qck (0 : Int32) 61 (
   if (h.2.1 (a0 + 7) (0 : Int32).toNatClampNeg) = (0 : Int64) then (
    some ((0 : Int32), h))
   else (
    some ((1 : Int32), h))))
set_option maxRecDepth 20000 in
theorem s_X5_isTrue_b142 {l : Launch} {g : qa_G} {d : Nat} {rz : Option Value} {hz : qa_M} (a0 : Nat) (ha0 : qLaw a0) (x3 : Int32) (h : qa_M) {z : (Int32 × qa_M)} (E : f_X5_isTrue_b142 a0 x3 h = some z) (G : (qg_i rz hz) z) : qt_At l g (yX5_isTrue, cX5_isTrue, 6, (some .boolean)) (d + 2) 0 0 142 [(0, .ref (g.1 + a0)), (3, .int x3)] [] h rz hz := by
  unfold f_X5_isTrue_b142 at E
  refine qt_iload_n 1 dX5_isTrue_142 rfl rfl ?_
  refine qt_if_le 161 dX5_isTrue_143 (by decide) E (fun E => ?_) (fun E => ?_)
  · refine qt_iconst dX5_isTrue_161 ci_0 ?_
    exact qt_zreturn rfl (Or.inl rfl) (Nat.le_of_ble_eq_true rfl) dX5_isTrue_162 E G
  · refine qt_aload_n 0 dX5_isTrue_146 rfl rfl ?_
    refine qt_getS (a0 + 7) (wl_Law_0 ha0 h) fe_RX5_32 rfl dX5_isTrue_147 ?_
    refine qt_iconst dX5_isTrue_150 ci_0 ?_
    refine qt_lald (wl_Law_7 ha0 h) dX5_isTrue_151 E (fun E => ?_)
    refine qt_lconst dX5_isTrue_152 cl_0 ?_
    refine qt_lc_eq 161 dX5_isTrue_153 dX5_isTrue_154 (by decide) E (fun E => ?_) (fun E => ?_)
    · refine qt_iconst dX5_isTrue_161 ci_0 ?_
      exact qt_zreturn rfl (Or.inl rfl) (Nat.le_of_ble_eq_true rfl) dX5_isTrue_162 E G
    · refine qt_iconst dX5_isTrue_157 ci_1 ?_
      refine qt_goto 162 dX5_isTrue_158 (by decide) ?_
      exact qt_zreturn rfl (Or.inr rfl) (Nat.le_of_ble_eq_true rfl) dX5_isTrue_162 E G
noncomputable def f_X5_isTrue_b136 (a0 : Nat) (x2 : Int32) (x3 : Int32) (x4 : Int32) (h : qa_M) : Option ((Int32 × Int32 × Int32 × qa_M) ⊕ (Int32 × qa_M)) :=
  qbd (x4 + (1 : Int32)) (fun v136 : Int32 =>
  some (.inl (x2, x3, v136, h)))
set_option maxRecDepth 20000 in
theorem s_X5_isTrue_b136 {l : Launch} {g : qa_G} {d : Nat} {rz : Option Value} {hz : qa_M} (a0 : Nat) (ha0 : qLaw a0) (x2 : Int32) (x3 : Int32) (x4 : Int32) (h : qa_M) {z : ((Int32 × Int32 × Int32 × qa_M) ⊕ (Int32 × qa_M))} (E : f_X5_isTrue_b136 a0 x2 x3 x4 h = some z) (G : (Sum.elim (fun (sz : Int32 × Int32 × Int32 × qa_M) => qt_At l g (yX5_isTrue, cX5_isTrue, 6, (some .boolean)) (d + 2) 0 0 5 [(0, .ref (g.1 + a0)), (2, .int sz.1), (3, .int sz.2.1), (4, .int sz.2.2.1)] [] sz.2.2.2 rz hz) (qg_i rz hz)) z) : qt_At l g (yX5_isTrue, cX5_isTrue, 6, (some .boolean)) (d + 2) 0 0 136 [(0, .ref (g.1 + a0)), (2, .int x2), (3, .int x3), (4, .int x4)] [] h rz hz := by
  unfold f_X5_isTrue_b136 at E
  refine qt_iinc 3 (fun v136 => [(4, .int v136), (0, .ref (g.1 + a0)), (2, .int x2), (3, .int x3)]) dX5_isTrue_136 rfl ci_1 (Nat.le_of_ble_eq_true rfl) (fun _ => rfl) E (fun v136 E => ?_)
  refine qt_goto 5 dX5_isTrue_139 (by decide) ?_
  cases E
  exact qt_sub _ [1, 2, 3, 0] rfl (G)
noncomputable def f_X5_isTrue_b62 (a0 : Nat) (x2 : Int32) (x3 : Int32) (x4 : Int32) (s0 : Nat) (s1 : Int32) (s2 : Int64) (h : qa_M) : Option ((Int32 × Int32 × Int32 × qa_M) ⊕ (Int32 × qa_M)) :=
  qal 1 s0 h (fun n62 =>
  qck s1 n62 (
  qbd (qw_J h s0 s1.toNatClampNeg s2) (fun h62 : qa_M =>
  qbd (x3 + (1 : Int32)) (fun v63 : Int32 =>
  f_X5_isTrue_b136 a0 x2 v63 x4 h62))))
set_option maxRecDepth 20000 in
theorem s_X5_isTrue_b62 {l : Launch} {g : qa_G} {d : Nat} {rz : Option Value} {hz : qa_M} (a0 : Nat) (ha0 : qLaw a0) (x2 : Int32) (x3 : Int32) (x4 : Int32) (s0 : Nat) (s1 : Int32) (s2 : Int64) (h : qa_M) {z : ((Int32 × Int32 × Int32 × qa_M) ⊕ (Int32 × qa_M))} (E : f_X5_isTrue_b62 a0 x2 x3 x4 s0 s1 s2 h = some z) (G : (Sum.elim (fun (sz : Int32 × Int32 × Int32 × qa_M) => qt_At l g (yX5_isTrue, cX5_isTrue, 6, (some .boolean)) (d + 2) 0 0 5 [(0, .ref (g.1 + a0)), (2, .int sz.1), (3, .int sz.2.1), (4, .int sz.2.2.1)] [] sz.2.2.2 rz hz) (qg_i rz hz)) z) : qt_At l g (yX5_isTrue, cX5_isTrue, 6, (some .boolean)) (d + 2) 0 0 62 [(0, .ref (g.1 + a0)), (2, .int x2), (3, .int x3), (4, .int x4)] [.long s2, .int s1, .ref (g.1 + s0)] h rz hz := by
  unfold f_X5_isTrue_b62 at E
  obtain ⟨n62, w62, E⟩ := qal_el E
  refine qt_last w62 dX5_isTrue_62 E (fun h62 E => ?_)
  refine qt_iinc 2 (fun v63 => [(3, .int v63), (0, .ref (g.1 + a0)), (2, .int x2), (4, .int x4)]) dX5_isTrue_63 rfl ci_1 (Nat.le_of_ble_eq_true rfl) (fun _ => rfl) E (fun v63 E => ?_)
  refine qt_goto 136 dX5_isTrue_66 (by decide) ?_
  exact qt_sub _ [1, 2, 0, 3] rfl ((s_X5_isTrue_b136 a0 ha0 x2 v63 x4 h62 E G))
noncomputable def f_X5_isTrue_b5 (a0 : Nat) (x2 : Int32) (x3 : Int32) (x4 : Int32) (h : qa_M) : Option ((Int32 × Int32 × Int32 × qa_M) ⊕ (Int32 × qa_M)) :=
  if x2 ≤ x4 then (
   qup (f_X5_isTrue_b142 a0 x3 h))
  else (
   qck x4 400 (
   qbd (h.1 (a0 + 6) x4.toNatClampNeg) (fun v18 : Int32 =>
   if v18 < (-7 : Int32) then (
    if v18 = (-22 : Int32) then (
     if x3 ≤ 0 then (
      f_X5_isTrue_b136 a0 x2 x3 x4 h)
     else (
      qck (x3 - (1 : Int32)) 61 (
      qck (x3 - (1 : Int32)) 61 (
      qbd (qw_J h (a0 + 7) (x3 - (1 : Int32)).toNatClampNeg ((1 : Int64) - (h.2.1 (a0 + 7) (x3 - (1 : Int32)).toNatClampNeg))) (fun h97 : qa_M =>
      f_X5_isTrue_b136 a0 x2 x3 x4 h97)))))
    else (
     if x3 ≤ (1 : Int32) then (
      f_X5_isTrue_b136 a0 x2 x3 x4 h)
     else (
      qbd (x3 + (-1 : Int32)) (fun v106 : Int32 =>
      qck (v106 - (1 : Int32)) 61 (
      qck v106 61 (
      qbn (m_X5_join v18 (h.2.1 (a0 + 7) (v106 - (1 : Int32)).toNatClampNeg) (h.2.1 (a0 + 7) v106.toNatClampNeg) h) (fun (c132 : Int64) (h132 : qa_M) =>
      qck (v106 - (1 : Int32)) 61 (
      qbd (qw_J h132 (a0 + 7) (v106 - (1 : Int32)).toNatClampNeg c132) (fun h135 : qa_M =>
      f_X5_isTrue_b136 a0 x2 v106 x4 h135)))))))))
   else (
    if (61 : Int32) ≤ x3 then (
     f_X5_isTrue_b136 a0 x2 x3 x4 h)
    else (
     if v18 < 0 then (
      qck ((-1 : Int32) - v18) 7 (
      f_X5_isTrue_b62 a0 x2 x3 x4 (a0 + 7) x3 ((h.1 (a0 + 8) ((-1 : Int32) - v18).toNatClampNeg).toInt64) h))
     else (
      f_X5_isTrue_b62 a0 x2 x3 x4 (a0 + 7) x3 v18.toInt64 h))))))
set_option maxRecDepth 20000 in
theorem s_X5_isTrue_b5 {l : Launch} {g : qa_G} {d : Nat} {rz : Option Value} {hz : qa_M} (a0 : Nat) (ha0 : qLaw a0) (x2 : Int32) (x3 : Int32) (x4 : Int32) (h : qa_M) {z : ((Int32 × Int32 × Int32 × qa_M) ⊕ (Int32 × qa_M))} (E : f_X5_isTrue_b5 a0 x2 x3 x4 h = some z) (G : (Sum.elim (fun (sz : Int32 × Int32 × Int32 × qa_M) => qt_At l g (yX5_isTrue, cX5_isTrue, 6, (some .boolean)) (d + 2) 0 0 5 [(0, .ref (g.1 + a0)), (2, .int sz.1), (3, .int sz.2.1), (4, .int sz.2.2.1)] [] sz.2.2.2 rz hz) (qg_i rz hz)) z) : qt_At l g (yX5_isTrue, cX5_isTrue, 6, (some .boolean)) (d + 2) 0 0 5 [(0, .ref (g.1 + a0)), (2, .int x2), (3, .int x3), (4, .int x4)] [] h rz hz := by
  unfold f_X5_isTrue_b5 at E
  refine qt_iload 3 dX5_isTrue_5 rfl ?_
  refine qt_iload_n 1 dX5_isTrue_7 rfl rfl ?_
  refine qt_icmp_ge 142 dX5_isTrue_8 (by decide) E (fun E => ?_) (fun E => ?_)
  · obtain ⟨z0_, E, G⟩ := qup_g E G
    exact qt_sub _ [0, 2] rfl ((s_X5_isTrue_b142 a0 ha0 x3 h E G))
  · refine qt_aload_n 0 dX5_isTrue_11 rfl rfl ?_
    refine qt_getS (a0 + 6) (wl_Law_0 ha0 h) fe_RX5_29 rfl dX5_isTrue_12 ?_
    refine qt_iload 3 dX5_isTrue_15 rfl ?_
    refine qt_iald (wl_Law_6 ha0 h) dX5_isTrue_17 E (fun E => ?_)
    refine qt_istore (fun v18 => [(5, .int v18), (0, .ref (g.1 + a0)), (2, .int x2), (3, .int x3), (4, .int x4)]) dX5_isTrue_18 (Nat.le_of_ble_eq_true rfl) (fun _ => rfl) E (fun v18 E => ?_)
    refine qt_iload 0 dX5_isTrue_20 rfl ?_
    refine qt_bipush dX5_isTrue_22 cb_m7 ?_
    refine qt_icmp_lt 69 dX5_isTrue_24 (by decide) E (fun E => ?_) (fun E => ?_)
    · refine qt_iload 0 dX5_isTrue_69 rfl ?_
      refine qt_bipush dX5_isTrue_71 cb_m22 ?_
      refine qt_icmp_ne 101 dX5_isTrue_73 (by decide) E (fun E => ?_) (fun E => ?_)
      · refine qt_iload_n 3 dX5_isTrue_101 rfl rfl ?_
        refine qt_iconst dX5_isTrue_102 ci_1 ?_
        refine qt_icmp_le 136 dX5_isTrue_103 (by decide) E (fun E => ?_) (fun E => ?_)
        · exact qt_sub _ [1, 2, 3, 4] rfl ((s_X5_isTrue_b136 a0 ha0 x2 x3 x4 h E G))
        · refine qt_iinc 3 (fun v106 => [(3, .int v106), (5, .int v18), (0, .ref (g.1 + a0)), (2, .int x2), (4, .int x4)]) dX5_isTrue_106 rfl ci_m1 (Nat.le_of_ble_eq_true rfl) (fun _ => rfl) E (fun v106 E => ?_)
          refine qt_aload_n 2 dX5_isTrue_109 rfl rfl ?_
          refine qt_getS (a0 + 7) (wl_Law_0 ha0 h) fe_RX5_32 rfl dX5_isTrue_110 ?_
          refine qt_iload_n 0 dX5_isTrue_113 rfl rfl ?_
          refine qt_iconst dX5_isTrue_114 ci_1 ?_
          refine qt_isub dX5_isTrue_115 ?_
          refine qt_iload 1 dX5_isTrue_116 rfl ?_
          refine qt_aload_n 2 dX5_isTrue_118 rfl rfl ?_
          refine qt_getS (a0 + 7) (wl_Law_0 ha0 h) fe_RX5_32 rfl dX5_isTrue_119 ?_
          refine qt_iload_n 0 dX5_isTrue_122 rfl rfl ?_
          refine qt_iconst dX5_isTrue_123 ci_1 ?_
          refine qt_isub dX5_isTrue_124 ?_
          refine qt_lald (wl_Law_7 ha0 h) dX5_isTrue_125 E (fun E => ?_)
          refine qt_aload_n 2 dX5_isTrue_126 rfl rfl ?_
          refine qt_getS (a0 + 7) (wl_Law_0 ha0 h) fe_RX5_32 rfl dX5_isTrue_127 ?_
          refine qt_iload_n 0 dX5_isTrue_130 rfl rfl ?_
          refine qt_lald (wl_Law_7 ha0 h) dX5_isTrue_131 E (fun E => ?_)
          obtain ⟨c132, h132, e132, E⟩ := qbn_el E
          refine qt_callSl (b2 := 0) [.int v18, .long (h.2.1 (a0 + 7) (v106 - (1 : Int32)).toNatClampNeg), .long (h.2.1 (a0 + 7) v106.toNatClampNeg)] (c_X5_join v18 (h.2.1 (a0 + 7) (v106 - (1 : Int32)).toNatClampNeg) (h.2.1 (a0 + 7) v106.toNatClampNeg) h e132) cv_RX5_79 rfl (Nat.le_of_ble_eq_true rfl) (Nat.le_of_ble_eq_true rfl) dX5_isTrue_132 ?_
          refine qt_last (wl_Law_7 ha0 h132) dX5_isTrue_135 E (fun h135 E => ?_)
          exact qt_sub _ [2, 3, 0, 4] rfl ((s_X5_isTrue_b136 a0 ha0 x2 v106 x4 h135 E G))
      · refine qt_iload_n 3 dX5_isTrue_76 rfl rfl ?_
        refine qt_if_le 136 dX5_isTrue_77 (by decide) E (fun E => ?_) (fun E => ?_)
        · exact qt_sub _ [1, 2, 3, 4] rfl ((s_X5_isTrue_b136 a0 ha0 x2 x3 x4 h E G))
        · refine qt_aload_n 1 dX5_isTrue_80 rfl rfl ?_
          refine qt_getS (a0 + 7) (wl_Law_0 ha0 h) fe_RX5_32 rfl dX5_isTrue_81 ?_
          refine qt_iload_n 3 dX5_isTrue_84 rfl rfl ?_
          refine qt_iconst dX5_isTrue_85 ci_1 ?_
          refine qt_isub dX5_isTrue_86 ?_
          refine qt_lconst dX5_isTrue_87 cl_1 ?_
          refine qt_aload_n 1 dX5_isTrue_88 rfl rfl ?_
          refine qt_getS (a0 + 7) (wl_Law_0 ha0 h) fe_RX5_32 rfl dX5_isTrue_89 ?_
          refine qt_iload_n 3 dX5_isTrue_92 rfl rfl ?_
          refine qt_iconst dX5_isTrue_93 ci_1 ?_
          refine qt_isub dX5_isTrue_94 ?_
          refine qt_lald (wl_Law_7 ha0 h) dX5_isTrue_95 E (fun E => ?_)
          refine qt_lsub dX5_isTrue_96 ?_
          refine qt_last (wl_Law_7 ha0 h) dX5_isTrue_97 E (fun h97 E => ?_)
          refine qt_goto 136 dX5_isTrue_98 (by decide) ?_
          exact qt_sub _ [1, 2, 3, 4] rfl ((s_X5_isTrue_b136 a0 ha0 x2 x3 x4 h97 E G))
    · refine qt_iload_n 3 dX5_isTrue_27 rfl rfl ?_
      refine qt_aload_n 1 dX5_isTrue_28 rfl rfl ?_
      refine qt_getS (a0 + 7) (wl_Law_0 ha0 h) fe_RX5_32 rfl dX5_isTrue_29 ?_
      refine qt_alen (v := (61 : Int32)) (by decide) (wl_Law_7 ha0 h) cn_61 dX5_isTrue_32 ?_
      refine qt_icmp_ge 136 dX5_isTrue_33 (by decide) E (fun E => ?_) (fun E => ?_)
      · exact qt_sub _ [1, 2, 3, 4] rfl ((s_X5_isTrue_b136 a0 ha0 x2 x3 x4 h E G))
      · refine qt_aload_n 1 dX5_isTrue_36 rfl rfl ?_
        refine qt_getS (a0 + 7) (wl_Law_0 ha0 h) fe_RX5_32 rfl dX5_isTrue_37 ?_
        refine qt_iload_n 3 dX5_isTrue_40 rfl rfl ?_
        refine qt_iload 0 dX5_isTrue_41 rfl ?_
        refine qt_if_lt 52 dX5_isTrue_43 (by decide) E (fun E => ?_) (fun E => ?_)
        · refine qt_aload_n 1 dX5_isTrue_52 rfl rfl ?_
          refine qt_getS (a0 + 8) (wl_Law_0 ha0 h) fe_RX5_36 rfl dX5_isTrue_53 ?_
          refine qt_iconst dX5_isTrue_56 ci_m1 ?_
          refine qt_iload 0 dX5_isTrue_57 rfl ?_
          refine qt_isub dX5_isTrue_59 ?_
          refine qt_iald (wl_Law_8 ha0 h) dX5_isTrue_60 E (fun E => ?_)
          refine qt_i2l dX5_isTrue_61 ?_
          exact qt_sub _ [1, 2, 3, 4] rfl ((s_X5_isTrue_b62 a0 ha0 x2 x3 x4 (a0 + 7) x3 ((h.1 (a0 + 8) ((-1 : Int32) - v18).toNatClampNeg).toInt64) h E G))
        · refine qt_iload 0 dX5_isTrue_46 rfl ?_
          refine qt_i2l dX5_isTrue_48 ?_
          refine qt_goto 62 dX5_isTrue_49 (by decide) ?_
          exact qt_sub _ [1, 2, 3, 4] rfl ((s_X5_isTrue_b62 a0 ha0 x2 x3 x4 (a0 + 7) x3 v18.toInt64 h E G))
noncomputable def f_X5_isTrue_b5_loop (a0 : Nat) (x2 : Int32) (x3 : Int32) (x4 : Int32) (h : qa_M) : Option (Int32 × qa_M) := qlp (fun sz : Int32 × Int32 × Int32 × qa_M => f_X5_isTrue_b5 a0 sz.1 sz.2.1 sz.2.2.1 sz.2.2.2) (x2, x3, x4, h)
theorem s_X5_isTrue_b5_loop {l : Launch} {g : qa_G} {d : Nat} {rz : Option Value} {hz : qa_M} (a0 : Nat) (ha0 : qLaw a0) (x2 : Int32) (x3 : Int32) (x4 : Int32) (h : qa_M) {z : (Int32 × qa_M)} (E : f_X5_isTrue_b5_loop a0 x2 x3 x4 h = some z) (G : (qg_i rz hz) z) : qt_At l g (yX5_isTrue, cX5_isTrue, 6, (some .boolean)) (d + 2) 0 0 5 [(0, .ref (g.1 + a0)), (2, .int x2), (3, .int x3), (4, .int x4)] [] h rz hz :=
  qlp_ind (fun sz : Int32 × Int32 × Int32 × qa_M => qt_At l g (yX5_isTrue, cX5_isTrue, 6, (some .boolean)) (d + 2) 0 0 5 [(0, .ref (g.1 + a0)), (2, .int sz.1), (3, .int sz.2.1), (4, .int sz.2.2.1)] [] sz.2.2.2 rz hz) (fun sz E => s_X5_isTrue_b5 a0 ha0 sz.1 sz.2.1 sz.2.2.1 sz.2.2.2 E G) (fun sz sz2 E ih => s_X5_isTrue_b5 a0 ha0 sz.1 sz.2.1 sz.2.2.1 sz.2.2.2 E ih) (x2, x3, x4, h) E
noncomputable def m_X5_isTrue (a0 : Nat) (x1 : Int32) (x2 : Int32) (h : qa_M) : Option (Int32 × qa_M) :=
  qbd (0 : Int32) (fun v1 : Int32 =>
  qbd x1 (fun v3 : Int32 =>
  f_X5_isTrue_b5_loop a0 x2 v1 v3 h))
set_option maxRecDepth 20000 in
theorem c_X5_isTrue {l : Launch} {g : qa_G} {d : Nat} (a0 : Nat) (x1 : Int32) (x2 : Int32) (h : qa_M) (ha0 : qLaw a0) {c : Int32} {h1 : qa_M} (E : m_X5_isTrue a0 x1 x2 h = some (c, h1)) : qt_Met l g (yX5_isTrue, cX5_isTrue, 6, (some .boolean)) (d + 2) 0 [.ref (g.1 + a0), .int x1, .int x2] h (some (.int c)) h1 := by
  refine qt_Met.of (plainFor_of_name (by decide)) (Nat.le_of_ble_eq_true rfl) ?_
  have G : qg_i (some (.int c)) h1 ((c, h1)) := ⟨rfl, rfl⟩
  unfold m_X5_isTrue at E
  refine qt_iconst dX5_isTrue_0 ci_0 ?_
  refine qt_istore_n (fun v1 => [(3, .int v1), (0, .ref (g.1 + a0)), (1, .int x1), (2, .int x2)]) dX5_isTrue_1 rfl (Nat.le_of_ble_eq_true rfl) (fun _ => rfl) E (fun v1 E => ?_)
  refine qt_iload_n 2 dX5_isTrue_2 rfl rfl ?_
  refine qt_istore (fun v3 => [(4, .int v3), (3, .int v1), (0, .ref (g.1 + a0)), (1, .int x1), (2, .int x2)]) dX5_isTrue_3 (Nat.le_of_ble_eq_true rfl) (fun _ => rfl) E (fun v3 E => ?_)
  exact qt_sub _ [2, 4, 1, 0] rfl ((s_X5_isTrue_b5_loop a0 ha0 x2 v1 v3 h E G))
noncomputable def f_X5_barSquares_b96 (a0 : Nat) (x3 : Int32) (h : qa_M) : Option ((Int32 × qa_M) ⊕ qa_M) :=
  qbd (x3 + (1 : Int32)) (fun v96 : Int32 =>
  some (.inl (v96, h)))
set_option maxRecDepth 20000 in
theorem s_X5_barSquares_b96 {l : Launch} {g : qa_G} {d : Nat} {rz : Option Value} {hz : qa_M} (a0 : Nat) (ha0 : qLaw a0) (x3 : Int32) (h : qa_M) {z : ((Int32 × qa_M) ⊕ qa_M)} (E : f_X5_barSquares_b96 a0 x3 h = some z) (G : (Sum.elim (fun (sz : Int32 × qa_M) => qt_At l g (yX5_barSquares, cX5_barSquares, 5, none) (d + 3) 0 0 15 [(0, .ref (g.1 + a0)), (1, .ref (g.1 + 4)), (2, .ref (g.1 + 24)), (3, .int sz.1)] [] sz.2 rz hz) (qg_v rz hz)) z) : qt_At l g (yX5_barSquares, cX5_barSquares, 5, none) (d + 3) 0 0 96 [(0, .ref (g.1 + a0)), (1, .ref (g.1 + 4)), (2, .ref (g.1 + 24)), (3, .int x3)] [] h rz hz := by
  unfold f_X5_barSquares_b96 at E
  refine qt_iinc 3 (fun v96 => [(3, .int v96), (0, .ref (g.1 + a0)), (1, .ref (g.1 + 4)), (2, .ref (g.1 + 24))]) dX5_barSquares_96 rfl ci_1 (Nat.le_of_ble_eq_true rfl) (fun _ => rfl) E (fun v96 E => ?_)
  refine qt_goto 15 dX5_barSquares_99 (by decide) ?_
  cases E
  exact qt_sub _ [1, 2, 3, 0] rfl (G)
noncomputable def f_X5_barSquares_b90 (a0 : Nat) (x3 : Int32) (x4 : Int32) (h : qa_M) : Option ((Int32 × Int32 × qa_M) ⊕ ((Int32 × qa_M) ⊕ qa_M)) :=
  qbd (x4 + (1 : Int32)) (fun v90 : Int32 =>
  some (.inl (x3, v90, h)))
set_option maxRecDepth 20000 in
theorem s_X5_barSquares_b90 {l : Launch} {g : qa_G} {d : Nat} {rz : Option Value} {hz : qa_M} (a0 : Nat) (ha0 : qLaw a0) (x3 : Int32) (x4 : Int32) (h : qa_M) {z : ((Int32 × Int32 × qa_M) ⊕ ((Int32 × qa_M) ⊕ qa_M))} (E : f_X5_barSquares_b90 a0 x3 x4 h = some z) (G : (Sum.elim (fun (sz : Int32 × Int32 × qa_M) => qt_At l g (yX5_barSquares, cX5_barSquares, 5, none) (d + 3) 0 0 43 [(0, .ref (g.1 + a0)), (1, .ref (g.1 + 4)), (2, .ref (g.1 + 24)), (3, .int sz.1), (4, .int sz.2.1)] [] sz.2.2 rz hz) (Sum.elim (fun (sz : Int32 × qa_M) => qt_At l g (yX5_barSquares, cX5_barSquares, 5, none) (d + 3) 0 0 15 [(0, .ref (g.1 + a0)), (1, .ref (g.1 + 4)), (2, .ref (g.1 + 24)), (3, .int sz.1)] [] sz.2 rz hz) (qg_v rz hz))) z) : qt_At l g (yX5_barSquares, cX5_barSquares, 5, none) (d + 3) 0 0 90 [(0, .ref (g.1 + a0)), (1, .ref (g.1 + 4)), (2, .ref (g.1 + 24)), (3, .int x3), (4, .int x4)] [] h rz hz := by
  unfold f_X5_barSquares_b90 at E
  refine qt_iinc 4 (fun v90 => [(4, .int v90), (0, .ref (g.1 + a0)), (1, .ref (g.1 + 4)), (2, .ref (g.1 + 24)), (3, .int x3)]) dX5_barSquares_90 rfl ci_1 (Nat.le_of_ble_eq_true rfl) (fun _ => rfl) E (fun v90 E => ?_)
  refine qt_goto 43 dX5_barSquares_93 (by decide) ?_
  cases E
  exact qt_sub _ [1, 2, 3, 4, 0] rfl (G)
noncomputable def f_X5_barSquares_b43 (a0 : Nat) (x3 : Int32) (x4 : Int32) (h : qa_M) : Option ((Int32 × Int32 × qa_M) ⊕ ((Int32 × qa_M) ⊕ qa_M)) :=
  if (h.1 a0 4) ≤ x4 then (
   qup (f_X5_barSquares_b96 a0 x3 h))
  else (
   qck x4 13 (
   qck (x4 + (1 : Int32)) 13 (
   qbn (m_X5_isTrue a0 (h.1 (a0 + 5) x4.toNatClampNeg) (h.1 (a0 + 5) (x4 + (1 : Int32)).toNatClampNeg) h) (fun (c69 : Int32) (h69 : qa_M) =>
   if c69 = 0 then (
    f_X5_barSquares_b90 a0 x3 x4 h69)
   else (
    qck x4 12 (
    qck (h69.1 (a0 + 4) x4.toNatClampNeg) 4 (
    qck (h69.1 (a0 + 4) x4.toNatClampNeg) 4 (
    qbd (qw_J h69 24 (h69.1 (a0 + 4) x4.toNatClampNeg).toNatClampNeg ((h69.2.1 24 (h69.1 (a0 + 4) x4.toNatClampNeg).toNatClampNeg) ||| (q_lshl (1 : Int64) x3))) (fun h89 : qa_M =>
    f_X5_barSquares_b90 a0 x3 x4 h89)))))))))
set_option maxRecDepth 20000 in
theorem s_X5_barSquares_b43 {l : Launch} {g : qa_G} {d : Nat} {rz : Option Value} {hz : qa_M} (a0 : Nat) (ha0 : qLaw a0) (x3 : Int32) (x4 : Int32) (h : qa_M) {z : ((Int32 × Int32 × qa_M) ⊕ ((Int32 × qa_M) ⊕ qa_M))} (E : f_X5_barSquares_b43 a0 x3 x4 h = some z) (G : (Sum.elim (fun (sz : Int32 × Int32 × qa_M) => qt_At l g (yX5_barSquares, cX5_barSquares, 5, none) (d + 3) 0 0 43 [(0, .ref (g.1 + a0)), (1, .ref (g.1 + 4)), (2, .ref (g.1 + 24)), (3, .int sz.1), (4, .int sz.2.1)] [] sz.2.2 rz hz) (Sum.elim (fun (sz : Int32 × qa_M) => qt_At l g (yX5_barSquares, cX5_barSquares, 5, none) (d + 3) 0 0 15 [(0, .ref (g.1 + a0)), (1, .ref (g.1 + 4)), (2, .ref (g.1 + 24)), (3, .int sz.1)] [] sz.2 rz hz) (qg_v rz hz))) z) : qt_At l g (yX5_barSquares, cX5_barSquares, 5, none) (d + 3) 0 0 43 [(0, .ref (g.1 + a0)), (1, .ref (g.1 + 4)), (2, .ref (g.1 + 24)), (3, .int x3), (4, .int x4)] [] h rz hz := by
  unfold f_X5_barSquares_b43 at E
  refine qt_iload 4 dX5_barSquares_43 rfl ?_
  refine qt_aload_n 0 dX5_barSquares_45 rfl rfl ?_
  refine qt_getI (wl_Law_0 ha0 h) fe_RX5_43 rfl dX5_barSquares_46 ?_
  refine qt_icmp_ge 96 dX5_barSquares_49 (by decide) E (fun E => ?_) (fun E => ?_)
  · obtain ⟨z0_, E, G⟩ := qup_g E G
    exact qt_sub _ [0, 1, 2, 3] rfl ((s_X5_barSquares_b96 a0 ha0 x3 h E G))
  · refine qt_aload_n 0 dX5_barSquares_52 rfl rfl ?_
    refine qt_aload_n 0 dX5_barSquares_53 rfl rfl ?_
    refine qt_getS (a0 + 5) (wl_Law_0 ha0 h) fe_RX5_24 rfl dX5_barSquares_54 ?_
    refine qt_iload 4 dX5_barSquares_57 rfl ?_
    refine qt_iald (wl_Law_5 ha0 h) dX5_barSquares_59 E (fun E => ?_)
    refine qt_aload_n 0 dX5_barSquares_60 rfl rfl ?_
    refine qt_getS (a0 + 5) (wl_Law_0 ha0 h) fe_RX5_24 rfl dX5_barSquares_61 ?_
    refine qt_iload 4 dX5_barSquares_64 rfl ?_
    refine qt_iconst dX5_barSquares_66 ci_1 ?_
    refine qt_iadd dX5_barSquares_67 ?_
    refine qt_iald (wl_Law_5 ha0 h) dX5_barSquares_68 E (fun E => ?_)
    obtain ⟨c69, h69, e69, E⟩ := qbn_el E
    refine qt_callVi (b2 := 0) [.int (h.1 (a0 + 5) x4.toNatClampNeg), .int (h.1 (a0 + 5) (x4 + (1 : Int32)).toNatClampNeg)] (c_X5_isTrue a0 (h.1 (a0 + 5) x4.toNatClampNeg) (h.1 (a0 + 5) (x4 + (1 : Int32)).toNatClampNeg) h ha0 e69) cv_RX5_59 (wl_Law_0 ha0 h) rfl rfl rfl (Nat.le_of_ble_eq_true rfl) (Nat.le_of_ble_eq_true rfl) dX5_barSquares_69 ?_
    refine qt_if_eq 90 dX5_barSquares_72 (by decide) E (fun E => ?_) (fun E => ?_)
    · exact qt_sub _ [0, 1, 2, 3, 4] rfl ((s_X5_barSquares_b90 a0 ha0 x3 x4 h69 E G))
    · refine qt_aload_n 2 dX5_barSquares_75 rfl rfl ?_
      refine qt_aload_n 0 dX5_barSquares_76 rfl rfl ?_
      refine qt_getS (a0 + 4) (wl_Law_0 ha0 h69) fe_RX5_21 rfl dX5_barSquares_77 ?_
      refine qt_iload 4 dX5_barSquares_80 rfl ?_
      refine qt_iald (wl_Law_4 ha0 h69) dX5_barSquares_82 E (fun E => ?_)
      refine qt_dup2_11 dX5_barSquares_83 rfl rfl ?_
      refine qt_lald (wl_24 h69) dX5_barSquares_84 E (fun E => ?_)
      refine qt_lconst dX5_barSquares_85 cl_1 ?_
      refine qt_iload_n 3 dX5_barSquares_86 rfl rfl ?_
      refine qt_lshl dX5_barSquares_87 ?_
      refine qt_lor dX5_barSquares_88 ?_
      refine qt_last (wl_24 h69) dX5_barSquares_89 E (fun h89 E => ?_)
      exact qt_sub _ [0, 1, 2, 3, 4] rfl ((s_X5_barSquares_b90 a0 ha0 x3 x4 h89 E G))
noncomputable def f_X5_barSquares_b43_loop (a0 : Nat) (x3 : Int32) (x4 : Int32) (h : qa_M) : Option ((Int32 × qa_M) ⊕ qa_M) := qlp (fun sz : Int32 × Int32 × qa_M => f_X5_barSquares_b43 a0 sz.1 sz.2.1 sz.2.2) (x3, x4, h)
theorem s_X5_barSquares_b43_loop {l : Launch} {g : qa_G} {d : Nat} {rz : Option Value} {hz : qa_M} (a0 : Nat) (ha0 : qLaw a0) (x3 : Int32) (x4 : Int32) (h : qa_M) {z : ((Int32 × qa_M) ⊕ qa_M)} (E : f_X5_barSquares_b43_loop a0 x3 x4 h = some z) (G : (Sum.elim (fun (sz : Int32 × qa_M) => qt_At l g (yX5_barSquares, cX5_barSquares, 5, none) (d + 3) 0 0 15 [(0, .ref (g.1 + a0)), (1, .ref (g.1 + 4)), (2, .ref (g.1 + 24)), (3, .int sz.1)] [] sz.2 rz hz) (qg_v rz hz)) z) : qt_At l g (yX5_barSquares, cX5_barSquares, 5, none) (d + 3) 0 0 43 [(0, .ref (g.1 + a0)), (1, .ref (g.1 + 4)), (2, .ref (g.1 + 24)), (3, .int x3), (4, .int x4)] [] h rz hz :=
  qlp_ind (fun sz : Int32 × Int32 × qa_M => qt_At l g (yX5_barSquares, cX5_barSquares, 5, none) (d + 3) 0 0 43 [(0, .ref (g.1 + a0)), (1, .ref (g.1 + 4)), (2, .ref (g.1 + 24)), (3, .int sz.1), (4, .int sz.2.1)] [] sz.2.2 rz hz) (fun sz E => s_X5_barSquares_b43 a0 ha0 sz.1 sz.2.1 sz.2.2 E G) (fun sz sz2 E ih => s_X5_barSquares_b43 a0 ha0 sz.1 sz.2.1 sz.2.2 E ih) (x3, x4, h) E
noncomputable def f_X5_barSquares_b15 (a0 : Nat) (x3 : Int32) (h : qa_M) : Option ((Int32 × qa_M) ⊕ qa_M) :=
  if (36 : Int32) ≤ x3 then (
   qup (some h))
  else (
   if ((q_lushr (h.2.1 4 6) x3) &&& (1 : Int64)) = (0 : Int64) then (
    f_X5_barSquares_b96 a0 x3 h)
   else (
    qbv (m_X5_learn a0 x3 h) (fun h37 : qa_M =>
    qbd (0 : Int32) (fun v41 : Int32 =>
    f_X5_barSquares_b43_loop a0 x3 v41 h37))))
set_option maxRecDepth 20000 in
theorem s_X5_barSquares_b15 {l : Launch} {g : qa_G} {d : Nat} {rz : Option Value} {hz : qa_M} (a0 : Nat) (ha0 : qLaw a0) (x3 : Int32) (h : qa_M) {z : ((Int32 × qa_M) ⊕ qa_M)} (E : f_X5_barSquares_b15 a0 x3 h = some z) (G : (Sum.elim (fun (sz : Int32 × qa_M) => qt_At l g (yX5_barSquares, cX5_barSquares, 5, none) (d + 3) 0 0 15 [(0, .ref (g.1 + a0)), (1, .ref (g.1 + 4)), (2, .ref (g.1 + 24)), (3, .int sz.1)] [] sz.2 rz hz) (qg_v rz hz)) z) : qt_At l g (yX5_barSquares, cX5_barSquares, 5, none) (d + 3) 0 0 15 [(0, .ref (g.1 + a0)), (1, .ref (g.1 + 4)), (2, .ref (g.1 + 24)), (3, .int x3)] [] h rz hz := by
  unfold f_X5_barSquares_b15 at E
  refine qt_iload_n 3 dX5_barSquares_15 rfl rfl ?_
  refine qt_bipush dX5_barSquares_16 cb_36 ?_
  refine qt_icmp_ge 102 dX5_barSquares_18 (by decide) E (fun E => ?_) (fun E => ?_)
  · obtain ⟨z0_, E, G⟩ := qup_g E G
    exact qt_vreturn rfl (Nat.le_of_ble_eq_true rfl) dX5_barSquares_102 E G
  · refine qt_aload_n 1 dX5_barSquares_21 rfl rfl ?_
    refine qt_getJ (wl_4 h) fe_RX5_49 rfl dX5_barSquares_22 ?_
    refine qt_iload_n 3 dX5_barSquares_25 rfl rfl ?_
    refine qt_lushr dX5_barSquares_26 ?_
    refine qt_lconst dX5_barSquares_27 cl_1 ?_
    refine qt_land dX5_barSquares_28 ?_
    refine qt_lconst dX5_barSquares_29 cl_0 ?_
    refine qt_lc_eq 96 dX5_barSquares_30 dX5_barSquares_31 (by decide) E (fun E => ?_) (fun E => ?_)
    · exact qt_sub _ [0, 1, 2, 3] rfl ((s_X5_barSquares_b96 a0 ha0 x3 h E G))
    · refine qt_aload_n 0 dX5_barSquares_34 rfl rfl ?_
      refine qt_aload_n 1 dX5_barSquares_35 rfl rfl ?_
      refine qt_iload_n 3 dX5_barSquares_36 rfl rfl ?_
      obtain ⟨h37, e37, E⟩ := qbv_el E
      refine qt_callVv (b2 := 0) [.ref (g.1 + 4), .int x3] (c_X5_learn a0 x3 h ha0 e37) cv_RX5_55 (wl_Law_0 ha0 h) rfl rfl rfl (Nat.le_of_ble_eq_true rfl) (Nat.le_of_ble_eq_true rfl) dX5_barSquares_37 ?_
      refine qt_iconst dX5_barSquares_40 ci_0 ?_
      refine qt_istore (fun v41 => [(4, .int v41), (0, .ref (g.1 + a0)), (1, .ref (g.1 + 4)), (2, .ref (g.1 + 24)), (3, .int x3)]) dX5_barSquares_41 (Nat.le_of_ble_eq_true rfl) (fun _ => rfl) E (fun v41 E => ?_)
      exact qt_sub _ [1, 2, 3, 4, 0] rfl ((s_X5_barSquares_b43_loop a0 ha0 x3 v41 h37 E G))
noncomputable def f_X5_barSquares_b15_loop (a0 : Nat) (x3 : Int32) (h : qa_M) : Option qa_M := qlp (fun sz : Int32 × qa_M => f_X5_barSquares_b15 a0 sz.1 sz.2) (x3, h)
theorem s_X5_barSquares_b15_loop {l : Launch} {g : qa_G} {d : Nat} {rz : Option Value} {hz : qa_M} (a0 : Nat) (ha0 : qLaw a0) (x3 : Int32) (h : qa_M) {z : qa_M} (E : f_X5_barSquares_b15_loop a0 x3 h = some z) (G : (qg_v rz hz) z) : qt_At l g (yX5_barSquares, cX5_barSquares, 5, none) (d + 3) 0 0 15 [(0, .ref (g.1 + a0)), (1, .ref (g.1 + 4)), (2, .ref (g.1 + 24)), (3, .int x3)] [] h rz hz :=
  qlp_ind (fun sz : Int32 × qa_M => qt_At l g (yX5_barSquares, cX5_barSquares, 5, none) (d + 3) 0 0 15 [(0, .ref (g.1 + a0)), (1, .ref (g.1 + 4)), (2, .ref (g.1 + 24)), (3, .int sz.1)] [] sz.2 rz hz) (fun sz E => s_X5_barSquares_b15 a0 ha0 sz.1 sz.2 E G) (fun sz sz2 E ih => s_X5_barSquares_b15 a0 ha0 sz.1 sz.2 E ih) (x3, h) E
noncomputable def m_X5_barSquares (a0 : Nat) (h : qa_M) : Option qa_M :=
  qck (h.1 a0 4) 13 (
  qbd (qw_I h (a0 + 5) (h.1 a0 4).toNatClampNeg (h.1 a0 8)) (fun h12 : qa_M =>
  qbd (0 : Int32) (fun v14 : Int32 =>
  f_X5_barSquares_b15_loop a0 v14 h12)))
set_option maxRecDepth 20000 in
theorem c_X5_barSquares {l : Launch} {g : qa_G} {d : Nat} (a0 : Nat) (h : qa_M) (ha0 : qLaw a0) {h1 : qa_M} (E : m_X5_barSquares a0 h = some h1) : qt_Met l g (yX5_barSquares, cX5_barSquares, 5, none) (d + 3) 0 [.ref (g.1 + a0), .ref (g.1 + 4), .ref (g.1 + 24)] h none h1 := by
  refine qt_Met.of (plainFor_of_name (by decide)) (Nat.le_of_ble_eq_true rfl) ?_
  have G : qg_v none h1 (h1) := ⟨rfl, rfl⟩
  unfold m_X5_barSquares at E
  refine qt_aload_n 0 dX5_barSquares_0 rfl rfl ?_
  refine qt_getS (a0 + 5) (wl_Law_0 ha0 h) fe_RX5_24 rfl dX5_barSquares_1 ?_
  refine qt_aload_n 0 dX5_barSquares_4 rfl rfl ?_
  refine qt_getI (wl_Law_0 ha0 h) fe_RX5_43 rfl dX5_barSquares_5 ?_
  refine qt_aload_n 0 dX5_barSquares_8 rfl rfl ?_
  refine qt_getI (wl_Law_0 ha0 h) fe_RX5_46 rfl dX5_barSquares_9 ?_
  refine qt_iast (wl_Law_5 ha0 h) dX5_barSquares_12 E (fun h12 E => ?_)
  refine qt_iconst dX5_barSquares_13 ci_0 ?_
  refine qt_istore_n (fun v14 => [(3, .int v14), (0, .ref (g.1 + a0)), (1, .ref (g.1 + 4)), (2, .ref (g.1 + 24))]) dX5_barSquares_14 rfl (Nat.le_of_ble_eq_true rfl) (fun _ => rfl) E (fun v14 E => ?_)
  exact qt_sub _ [1, 2, 3, 0] rfl ((s_X5_barSquares_b15_loop a0 ha0 v14 h12 E G))
noncomputable def m_X7_keepApart (x1 : Int32) (x2 : Int32) (x3 : Int32) (h : qa_M) : Option qa_M :=
  qbd ((x1 * (4 : Int32)) + x2) (fun v5 : Int32 =>
  qck v5 16 (
  qck v5 16 (
  qbd (qw_I h 25 v5.toNatClampNeg (q_max (h.1 25 v5.toNatClampNeg) x3)) (fun h24 : qa_M =>
  some h24))))
set_option maxRecDepth 20000 in
theorem c_X7_keepApart {l : Launch} {g : qa_G} {d : Nat} (x1 : Int32) (x2 : Int32) (x3 : Int32) (h : qa_M) {h1 : qa_M} (E : m_X7_keepApart x1 x2 x3 h = some h1) : qt_Met l g (yX7_keepApart, cX7_keepApart, 5, none) (d + 1) 0 [.ref (g.1 + 22), .int x1, .int x2, .int x3] h none h1 := by
  refine qt_Met.of (plainFor_of_name (by decide)) (Nat.le_of_ble_eq_true rfl) ?_
  have G : qg_v none h1 (h1) := ⟨rfl, rfl⟩
  unfold m_X7_keepApart at E
  refine qt_iload_n 1 dX7_keepApart_0 rfl rfl ?_
  refine qt_iconst dX7_keepApart_1 ci_4 ?_
  refine qt_imul dX7_keepApart_2 ?_
  refine qt_iload_n 2 dX7_keepApart_3 rfl rfl ?_
  refine qt_iadd dX7_keepApart_4 ?_
  refine qt_istore (fun v5 => [(4, .int v5), (0, .ref (g.1 + 22)), (1, .int x1), (2, .int x2), (3, .int x3)]) dX7_keepApart_5 (Nat.le_of_ble_eq_true rfl) (fun _ => rfl) E (fun v5 E => ?_)
  refine qt_aload_n 1 dX7_keepApart_7 rfl rfl ?_
  refine qt_getS 25 (wl_22 h) fe_RX7_18 rfl dX7_keepApart_8 ?_
  refine qt_iload 0 dX7_keepApart_11 rfl ?_
  refine qt_aload_n 1 dX7_keepApart_13 rfl rfl ?_
  refine qt_getS 25 (wl_22 h) fe_RX7_18 rfl dX7_keepApart_14 ?_
  refine qt_iload 0 dX7_keepApart_17 rfl ?_
  refine qt_iald (wl_25 h) dX7_keepApart_19 E (fun E => ?_)
  refine qt_iload_n 4 dX7_keepApart_20 rfl rfl ?_
  refine qt_mmax tb_946 dX7_keepApart_21 (Nat.le_of_ble_eq_true rfl) ?_
  refine qt_iast (wl_25 h) dX7_keepApart_24 E (fun h24 E => ?_)
  exact qt_vreturn rfl (Nat.le_of_ble_eq_true rfl) dX7_keepApart_25 E G
