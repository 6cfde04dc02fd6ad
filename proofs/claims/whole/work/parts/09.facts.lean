theorem ci_m8 : Int32.ofInt (-8) = (-8 : Int32) := by decide
theorem ci_m1 : Int32.ofInt (-1) = (-1 : Int32) := by decide
theorem ci_0 : Int32.ofInt 0 = (0 : Int32) := by decide
theorem ci_1 : Int32.ofInt 1 = (1 : Int32) := by decide
theorem ci_2 : Int32.ofInt 2 = (2 : Int32) := by decide
theorem ci_3 : Int32.ofInt 3 = (3 : Int32) := by decide
theorem ci_4 : Int32.ofInt 4 = (4 : Int32) := by decide
theorem ci_5 : Int32.ofInt 5 = (5 : Int32) := by decide
theorem ci_50 : Int32.ofInt 50 = (50 : Int32) := by decide
theorem ci_61 : Int32.ofInt 61 = (61 : Int32) := by decide
theorem ci_400 : Int32.ofInt 400 = (400 : Int32) := by decide
theorem ci_576 : Int32.ofInt 576 = (576 : Int32) := by decide
theorem ci_2048 : Int32.ofInt 2048 = (2048 : Int32) := by decide
theorem ci_16384 : Int32.ofInt 16384 = (16384 : Int32) := by decide
theorem cb_m22 : (Int8.ofInt (-22)).toInt32 = (-22 : Int32) := by decide
theorem cb_m21 : (Int8.ofInt (-21)).toInt32 = (-21 : Int32) := by decide
theorem cb_m20 : (Int8.ofInt (-20)).toInt32 = (-20 : Int32) := by decide
theorem cb_m19 : (Int8.ofInt (-19)).toInt32 = (-19 : Int32) := by decide
theorem cb_m18 : (Int8.ofInt (-18)).toInt32 = (-18 : Int32) := by decide
theorem cb_m17 : (Int8.ofInt (-17)).toInt32 = (-17 : Int32) := by decide
theorem cb_m16 : (Int8.ofInt (-16)).toInt32 = (-16 : Int32) := by decide
theorem cb_m15 : (Int8.ofInt (-15)).toInt32 = (-15 : Int32) := by decide
theorem cb_m14 : (Int8.ofInt (-14)).toInt32 = (-14 : Int32) := by decide
theorem cb_m13 : (Int8.ofInt (-13)).toInt32 = (-13 : Int32) := by decide
theorem cb_m12 : (Int8.ofInt (-12)).toInt32 = (-12 : Int32) := by decide
theorem cb_m11 : (Int8.ofInt (-11)).toInt32 = (-11 : Int32) := by decide
theorem cb_m7 : (Int8.ofInt (-7)).toInt32 = (-7 : Int32) := by decide
theorem cb_m2 : (Int8.ofInt (-2)).toInt32 = (-2 : Int32) := by decide
theorem cb_6 : (Int8.ofInt 6).toInt32 = (6 : Int32) := by decide
theorem cb_7 : (Int8.ofInt 7).toInt32 = (7 : Int32) := by decide
theorem cb_8 : (Int8.ofInt 8).toInt32 = (8 : Int32) := by decide
theorem cb_9 : (Int8.ofInt 9).toInt32 = (9 : Int32) := by decide
theorem cb_10 : (Int8.ofInt 10).toInt32 = (10 : Int32) := by decide
theorem cb_11 : (Int8.ofInt 11).toInt32 = (11 : Int32) := by decide
theorem cb_12 : (Int8.ofInt 12).toInt32 = (12 : Int32) := by decide
theorem cb_13 : (Int8.ofInt 13).toInt32 = (13 : Int32) := by decide
theorem cb_14 : (Int8.ofInt 14).toInt32 = (14 : Int32) := by decide
theorem cb_16 : (Int8.ofInt 16).toInt32 = (16 : Int32) := by decide
theorem cb_20 : (Int8.ofInt 20).toInt32 = (20 : Int32) := by decide
theorem cb_24 : (Int8.ofInt 24).toInt32 = (24 : Int32) := by decide
theorem cb_32 : (Int8.ofInt 32).toInt32 = (32 : Int32) := by decide
theorem cb_36 : (Int8.ofInt 36).toInt32 = (36 : Int32) := by decide
theorem cb_42 : (Int8.ofInt 42).toInt32 = (42 : Int32) := by decide
theorem cb_43 : (Int8.ofInt 43).toInt32 = (43 : Int32) := by decide
theorem cb_45 : (Int8.ofInt 45).toInt32 = (45 : Int32) := by decide
theorem cb_47 : (Int8.ofInt 47).toInt32 = (47 : Int32) := by decide
theorem cb_48 : (Int8.ofInt 48).toInt32 = (48 : Int32) := by decide
theorem cb_57 : (Int8.ofInt 57).toInt32 = (57 : Int32) := by decide
theorem cb_59 : (Int8.ofInt 59).toInt32 = (59 : Int32) := by decide
theorem cb_60 : (Int8.ofInt 60).toInt32 = (60 : Int32) := by decide
theorem cb_61 : (Int8.ofInt 61).toInt32 = (61 : Int32) := by decide
theorem cb_62 : (Int8.ofInt 62).toInt32 = (62 : Int32) := by decide
theorem cb_63 : (Int8.ofInt 63).toInt32 = (63 : Int32) := by decide
theorem cb_64 : (Int8.ofInt 64).toInt32 = (64 : Int32) := by decide
theorem cb_91 : (Int8.ofInt 91).toInt32 = (91 : Int32) := by decide
theorem cb_93 : (Int8.ofInt 93).toInt32 = (93 : Int32) := by decide
theorem cb_97 : (Int8.ofInt 97).toInt32 = (97 : Int32) := by decide
theorem cb_122 : (Int8.ofInt 122).toInt32 = (122 : Int32) := by decide
theorem cb_127 : (Int8.ofInt 127).toInt32 = (127 : Int32) := by decide
theorem cs_130 : (Int16.ofInt 130).toInt32 = (130 : Int32) := by decide
theorem cs_255 : (Int16.ofInt 255).toInt32 = (255 : Int32) := by decide
theorem cs_256 : (Int16.ofInt 256).toInt32 = (256 : Int32) := by decide
theorem cs_300 : (Int16.ofInt 300).toInt32 = (300 : Int32) := by decide
theorem cs_400 : (Int16.ofInt 400).toInt32 = (400 : Int32) := by decide
theorem cs_1024 : (Int16.ofInt 1024).toInt32 = (1024 : Int32) := by decide
theorem cs_9216 : (Int16.ofInt 9216).toInt32 = (9216 : Int32) := by decide
theorem cn_4 : Int32.ofNat 4 = (4 : Int32) := by decide
theorem cn_50 : Int32.ofNat 50 = (50 : Int32) := by decide
theorem cn_61 : Int32.ofNat 61 = (61 : Int32) := by decide
theorem cn_400 : Int32.ofNat 400 = (400 : Int32) := by decide
theorem cn_576 : Int32.ofNat 576 = (576 : Int32) := by decide
theorem cn_2048 : Int32.ofNat 2048 = (2048 : Int32) := by decide
theorem cn_16384 : Int32.ofNat 16384 = (16384 : Int32) := by decide
theorem cl_0 : Int64.ofNat ((0 : Fin 2) : Nat) = (0 : Int64) := by decide
theorem cl_1 : Int64.ofNat ((1 : Fin 2) : Nat) = (1 : Int64) := by decide
theorem clok_X0 : qa_clok (RX0, TX0, 16) := ⟨inX_X0, tyX0, tyX0_ok, nmX0⟩
theorem clok_X1 : qa_clok (RX1, TX1, 7) := ⟨inX_X1, tyX1, tyX1_ok, nmX1⟩
theorem clok_X3 : qa_clok (RX3, TX3, 13) := ⟨inX_X3, tyX3, tyX3_ok, nmX3⟩
theorem clok_X4 : qa_clok (RX4, TX4, 6) := ⟨inX_X4, tyX4, tyX4_ok, nmX4⟩
theorem clok_X5 : qa_clok (RX5, TX5, 11) := ⟨inX_X5, tyX5, tyX5_ok, nmX5⟩
theorem clok_X6 : qa_clok (RX6, TX6, 4) := ⟨inX_X6, tyX6, tyX6_ok, nmX6⟩
theorem clok_X7 : qa_clok (RX7, TX7, 17) := ⟨inX_X7, tyX7, tyX7_ok, nmX7⟩
theorem clok_X8 : qa_clok (RX8, TX8, 5) := ⟨inX_X8, tyX8, tyX8_ok, nmX8⟩
theorem clok_X9 : qa_clok (RX9, TX9, 8) := ⟨inX_X9, tyX9, tyX9_ok, nmX9⟩
theorem clok_X10 : qa_clok (RX10, TX10, 2) := ⟨inX_X10, tyX10, tyX10_ok, nmX10⟩
theorem clok_X11 : qa_clok (RX11, TX11, 15) := ⟨inX_X11, tyX11, tyX11_ok, nmX11⟩
theorem clok_X12 : qa_clok (RX12, TX12, 64) := ⟨inX_X12, tyX12, tyX12_ok, nmX12⟩
theorem fe_RX11_10 : qa_fe RX11 10 10 0 := ⟨_, rfl, clok_X11, Nat.le_of_ble_eq_true rfl, tb_553⟩
theorem fe_RX11_19 : qa_fe RX11 19 10 1 := ⟨_, rfl, clok_X11, Nat.le_of_ble_eq_true rfl, tb_554⟩
theorem fe_RX11_23 : qa_fe RX11 23 10 2 := ⟨_, rfl, clok_X11, Nat.le_of_ble_eq_true rfl, tb_555⟩
theorem fe_RX11_27 : qa_fe RX11 27 10 3 := ⟨_, rfl, clok_X11, Nat.le_of_ble_eq_true rfl, tb_556⟩
theorem fe_RX11_33 : qa_fe RX11 33 10 4 := ⟨_, rfl, clok_X11, Nat.le_of_ble_eq_true rfl, tb_557⟩
theorem fe_RX11_40 : qa_fe RX11 40 10 6 := ⟨_, rfl, clok_X11, Nat.le_of_ble_eq_true rfl, tb_559⟩
theorem fe_RX11_49 : qa_fe RX11 49 10 7 := ⟨_, rfl, clok_X11, Nat.le_of_ble_eq_true rfl, tb_560⟩
theorem fe_RX11_58 : qa_fe RX11 58 10 8 := ⟨_, rfl, clok_X11, Nat.le_of_ble_eq_true rfl, tb_561⟩
theorem fe_RX11_67 : qa_fe RX11 67 10 9 := ⟨_, rfl, clok_X11, Nat.le_of_ble_eq_true rfl, tb_562⟩
theorem fe_RX11_74 : qa_fe RX11 74 10 10 := ⟨_, rfl, clok_X11, Nat.le_of_ble_eq_true rfl, tb_563⟩
theorem fe_RX11_81 : qa_fe RX11 81 10 11 := ⟨_, rfl, clok_X11, Nat.le_of_ble_eq_true rfl, tb_564⟩
theorem fe_RX11_88 : qa_fe RX11 88 10 12 := ⟨_, rfl, clok_X11, Nat.le_of_ble_eq_true rfl, tb_565⟩
theorem fe_RX11_92 : qa_fe RX11 92 10 13 := ⟨_, rfl, clok_X11, Nat.le_of_ble_eq_true rfl, tb_566⟩
theorem fe_RX11_97 : qa_fe RX11 97 8 1 := ⟨_, rfl, clok_X9, Nat.le_of_ble_eq_true rfl, tb_156⟩
theorem fe_RX11_108 : qa_fe RX11 108 7 0 := ⟨_, rfl, clok_X8, Nat.le_of_ble_eq_true rfl, tb_276⟩
theorem fe_RX11_115 : qa_fe RX11 115 7 1 := ⟨_, rfl, clok_X8, Nat.le_of_ble_eq_true rfl, tb_279⟩
theorem fe_RX11_118 : qa_fe RX11 118 2 2 := ⟨_, rfl, clok_X3, Nat.le_of_ble_eq_true rfl, tb_213⟩
theorem fe_RX11_121 : qa_fe RX11 121 10 5 := ⟨_, rfl, clok_X11, Nat.le_of_ble_eq_true rfl, tb_558⟩
theorem fe_RX11_127 : qa_fe RX11 127 7 3 := ⟨_, rfl, clok_X8, Nat.le_of_ble_eq_true rfl, tb_283⟩
theorem fe_RX11_134 : qa_fe RX11 134 2 3 := ⟨_, rfl, clok_X3, Nat.le_of_ble_eq_true rfl, tb_216⟩
theorem fe_RX11_137 : qa_fe RX11 137 2 4 := ⟨_, rfl, clok_X3, Nat.le_of_ble_eq_true rfl, tb_221⟩
theorem fe_RX11_147 : qa_fe RX11 147 2 7 := ⟨_, rfl, clok_X3, Nat.le_of_ble_eq_true rfl, tb_230⟩
theorem fe_RX11_170 : qa_fe RX11 170 2 10 := ⟨_, rfl, clok_X3, Nat.le_of_ble_eq_true rfl, tb_239⟩
theorem fe_RX11_180 : qa_fe RX11 180 2 6 := ⟨_, rfl, clok_X3, Nat.le_of_ble_eq_true rfl, tb_227⟩
theorem fe_RX11_204 : qa_fe RX11 204 6 16 := ⟨_, rfl, clok_X7, Nat.le_of_ble_eq_true rfl, tb_378⟩
theorem fe_RX11_215 : qa_fe RX11 215 2 1 := ⟨_, rfl, clok_X3, Nat.le_of_ble_eq_true rfl, tb_208⟩
theorem fe_RX11_218 : qa_fe RX11 218 2 0 := ⟨_, rfl, clok_X3, Nat.le_of_ble_eq_true rfl, tb_205⟩
theorem fe_RX11_271 : qa_fe RX11 271 7 4 := ⟨_, rfl, clok_X8, Nat.le_of_ble_eq_true rfl, tb_285⟩
theorem fe_RX11_277 : qa_fe RX11 277 2 5 := ⟨_, rfl, clok_X3, Nat.le_of_ble_eq_true rfl, tb_224⟩
theorem fe_RX11_282 : qa_fe RX11 282 10 14 := ⟨_, rfl, clok_X11, Nat.le_of_ble_eq_true rfl, tb_567⟩
theorem fe_RX0_9 : qa_fe RX0 9 0 1 := ⟨_, rfl, clok_X0, Nat.le_of_ble_eq_true rfl, tb_449⟩
theorem fe_RX0_15 : qa_fe RX0 15 0 2 := ⟨_, rfl, clok_X0, Nat.le_of_ble_eq_true rfl, tb_450⟩
theorem fe_RX0_19 : qa_fe RX0 19 0 3 := ⟨_, rfl, clok_X0, Nat.le_of_ble_eq_true rfl, tb_451⟩
theorem fe_RX0_22 : qa_fe RX0 22 0 8 := ⟨_, rfl, clok_X0, Nat.le_of_ble_eq_true rfl, tb_456⟩
theorem fe_RX0_25 : qa_fe RX0 25 0 9 := ⟨_, rfl, clok_X0, Nat.le_of_ble_eq_true rfl, tb_457⟩
theorem fe_RX0_28 : qa_fe RX0 28 0 10 := ⟨_, rfl, clok_X0, Nat.le_of_ble_eq_true rfl, tb_458⟩
theorem fe_RX0_31 : qa_fe RX0 31 0 11 := ⟨_, rfl, clok_X0, Nat.le_of_ble_eq_true rfl, tb_459⟩
theorem fe_RX0_34 : qa_fe RX0 34 0 14 := ⟨_, rfl, clok_X0, Nat.le_of_ble_eq_true rfl, tb_462⟩
theorem fe_RX0_38 : qa_fe RX0 38 0 15 := ⟨_, rfl, clok_X0, Nat.le_of_ble_eq_true rfl, tb_463⟩
theorem fe_RX0_41 : qa_fe RX0 41 0 4 := ⟨_, rfl, clok_X0, Nat.le_of_ble_eq_true rfl, tb_452⟩
theorem fe_RX0_44 : qa_fe RX0 44 0 5 := ⟨_, rfl, clok_X0, Nat.le_of_ble_eq_true rfl, tb_453⟩
theorem fe_RX0_47 : qa_fe RX0 47 0 6 := ⟨_, rfl, clok_X0, Nat.le_of_ble_eq_true rfl, tb_454⟩
theorem fe_RX0_70 : qa_fe RX0 70 2 4 := ⟨_, rfl, clok_X3, Nat.le_of_ble_eq_true rfl, tb_219⟩
theorem fe_RX0_84 : qa_fe RX0 84 2 2 := ⟨_, rfl, clok_X3, Nat.le_of_ble_eq_true rfl, tb_211⟩
theorem fe_RX0_87 : qa_fe RX0 87 0 0 := ⟨_, rfl, clok_X0, Nat.le_of_ble_eq_true rfl, tb_448⟩
theorem fe_RX0_90 : qa_fe RX0 90 2 10 := ⟨_, rfl, clok_X3, Nat.le_of_ble_eq_true rfl, tb_237⟩
theorem fe_RX0_100 : qa_fe RX0 100 6 15 := ⟨_, rfl, clok_X7, Nat.le_of_ble_eq_true rfl, tb_375⟩
theorem fe_RX0_134 : qa_fe RX0 134 0 12 := ⟨_, rfl, clok_X0, Nat.le_of_ble_eq_true rfl, tb_460⟩
theorem fe_RX0_137 : qa_fe RX0 137 0 13 := ⟨_, rfl, clok_X0, Nat.le_of_ble_eq_true rfl, tb_461⟩
theorem fe_RX0_140 : qa_fe RX0 140 0 7 := ⟨_, rfl, clok_X0, Nat.le_of_ble_eq_true rfl, tb_455⟩
theorem fe_RX1_11 : qa_fe RX1 11 1 1 := ⟨_, rfl, clok_X1, Nat.le_of_ble_eq_true rfl, tb_421⟩
theorem fe_RX1_15 : qa_fe RX1 15 1 2 := ⟨_, rfl, clok_X1, Nat.le_of_ble_eq_true rfl, tb_422⟩
theorem fe_RX1_18 : qa_fe RX1 18 1 3 := ⟨_, rfl, clok_X1, Nat.le_of_ble_eq_true rfl, tb_423⟩
theorem fe_RX1_21 : qa_fe RX1 21 1 5 := ⟨_, rfl, clok_X1, Nat.le_of_ble_eq_true rfl, tb_425⟩
theorem fe_RX1_25 : qa_fe RX1 25 1 6 := ⟨_, rfl, clok_X1, Nat.le_of_ble_eq_true rfl, tb_426⟩
theorem fe_RX1_28 : qa_fe RX1 28 1 0 := ⟨_, rfl, clok_X1, Nat.le_of_ble_eq_true rfl, tb_420⟩
theorem fe_RX1_67 : qa_fe RX1 67 7 1 := ⟨_, rfl, clok_X8, Nat.le_of_ble_eq_true rfl, tb_278⟩
theorem fe_RX1_83 : qa_fe RX1 83 1 4 := ⟨_, rfl, clok_X1, Nat.le_of_ble_eq_true rfl, tb_424⟩
theorem fe_RX1_101 : qa_fe RX1 101 6 15 := ⟨_, rfl, clok_X7, Nat.le_of_ble_eq_true rfl, tb_374⟩
theorem fe_RX3_9 : qa_fe RX3 9 2 8 := ⟨_, rfl, clok_X3, Nat.le_of_ble_eq_true rfl, tb_231⟩
theorem fe_RX3_15 : qa_fe RX3 15 2 9 := ⟨_, rfl, clok_X3, Nat.le_of_ble_eq_true rfl, tb_234⟩
theorem fe_RX3_18 : qa_fe RX3 18 2 10 := ⟨_, rfl, clok_X3, Nat.le_of_ble_eq_true rfl, tb_236⟩
theorem fe_RX3_22 : qa_fe RX3 22 2 11 := ⟨_, rfl, clok_X3, Nat.le_of_ble_eq_true rfl, tb_240⟩
theorem fe_RX3_25 : qa_fe RX3 25 2 12 := ⟨_, rfl, clok_X3, Nat.le_of_ble_eq_true rfl, tb_243⟩
theorem fe_RX3_28 : qa_fe RX3 28 2 0 := ⟨_, rfl, clok_X3, Nat.le_of_ble_eq_true rfl, tb_203⟩
theorem fe_RX3_32 : qa_fe RX3 32 2 1 := ⟨_, rfl, clok_X3, Nat.le_of_ble_eq_true rfl, tb_206⟩
theorem fe_RX3_35 : qa_fe RX3 35 2 2 := ⟨_, rfl, clok_X3, Nat.le_of_ble_eq_true rfl, tb_209⟩
theorem fe_RX3_38 : qa_fe RX3 38 2 3 := ⟨_, rfl, clok_X3, Nat.le_of_ble_eq_true rfl, tb_214⟩
theorem fe_RX3_41 : qa_fe RX3 41 2 4 := ⟨_, rfl, clok_X3, Nat.le_of_ble_eq_true rfl, tb_218⟩
theorem fe_RX3_44 : qa_fe RX3 44 2 5 := ⟨_, rfl, clok_X3, Nat.le_of_ble_eq_true rfl, tb_222⟩
theorem fe_RX3_47 : qa_fe RX3 47 2 6 := ⟨_, rfl, clok_X3, Nat.le_of_ble_eq_true rfl, tb_225⟩
theorem fe_RX3_51 : qa_fe RX3 51 2 7 := ⟨_, rfl, clok_X3, Nat.le_of_ble_eq_true rfl, tb_228⟩
theorem fe_RX4_9 : qa_fe RX4 9 3 0 := ⟨_, rfl, clok_X4, Nat.le_of_ble_eq_true rfl, tb_308⟩
theorem fe_RX4_15 : qa_fe RX4 15 3 1 := ⟨_, rfl, clok_X4, Nat.le_of_ble_eq_true rfl, tb_309⟩
theorem fe_RX4_33 : qa_fe RX4 33 8 7 := ⟨_, rfl, clok_X9, Nat.le_of_ble_eq_true rfl, tb_170⟩
theorem fe_RX4_37 : qa_fe RX4 37 8 3 := ⟨_, rfl, clok_X9, Nat.le_of_ble_eq_true rfl, tb_159⟩
theorem fe_RX4_77 : qa_fe RX4 77 2 2 := ⟨_, rfl, clok_X3, Nat.le_of_ble_eq_true rfl, tb_212⟩
theorem fe_RX4_80 : qa_fe RX4 80 2 3 := ⟨_, rfl, clok_X3, Nat.le_of_ble_eq_true rfl, tb_215⟩
theorem fe_RX4_83 : qa_fe RX4 83 2 4 := ⟨_, rfl, clok_X3, Nat.le_of_ble_eq_true rfl, tb_220⟩
theorem fe_RX4_90 : qa_fe RX4 90 8 6 := ⟨_, rfl, clok_X9, Nat.le_of_ble_eq_true rfl, tb_168⟩
theorem fe_RX4_93 : qa_fe RX4 93 2 0 := ⟨_, rfl, clok_X3, Nat.le_of_ble_eq_true rfl, tb_204⟩
theorem fe_RX4_96 : qa_fe RX4 96 2 1 := ⟨_, rfl, clok_X3, Nat.le_of_ble_eq_true rfl, tb_207⟩
theorem fe_RX4_99 : qa_fe RX4 99 3 2 := ⟨_, rfl, clok_X4, Nat.le_of_ble_eq_true rfl, tb_310⟩
theorem fe_RX4_102 : qa_fe RX4 102 3 3 := ⟨_, rfl, clok_X4, Nat.le_of_ble_eq_true rfl, tb_311⟩
theorem fe_RX4_108 : qa_fe RX4 108 3 4 := ⟨_, rfl, clok_X4, Nat.le_of_ble_eq_true rfl, tb_312⟩
theorem fe_RX4_111 : qa_fe RX4 111 3 5 := ⟨_, rfl, clok_X4, Nat.le_of_ble_eq_true rfl, tb_313⟩
theorem fe_RX4_117 : qa_fe RX4 117 2 7 := ⟨_, rfl, clok_X3, Nat.le_of_ble_eq_true rfl, tb_229⟩
theorem fe_RX4_127 : qa_fe RX4 127 8 4 := ⟨_, rfl, clok_X9, Nat.le_of_ble_eq_true rfl, tb_163⟩
theorem fe_RX4_137 : qa_fe RX4 137 2 8 := ⟨_, rfl, clok_X3, Nat.le_of_ble_eq_true rfl, tb_233⟩
theorem fe_RX4_141 : qa_fe RX4 141 2 9 := ⟨_, rfl, clok_X3, Nat.le_of_ble_eq_true rfl, tb_235⟩
theorem fe_RX4_144 : qa_fe RX4 144 2 11 := ⟨_, rfl, clok_X3, Nat.le_of_ble_eq_true rfl, tb_242⟩
theorem fe_RX4_148 : qa_fe RX4 148 2 5 := ⟨_, rfl, clok_X3, Nat.le_of_ble_eq_true rfl, tb_223⟩
theorem fe_RX4_151 : qa_fe RX4 151 2 12 := ⟨_, rfl, clok_X3, Nat.le_of_ble_eq_true rfl, tb_245⟩
theorem fe_RX5_11 : qa_fe RX5 11 4 1 := ⟨_, rfl, clok_X5, Nat.le_of_ble_eq_true rfl, tb_517⟩
theorem fe_RX5_15 : qa_fe RX5 15 4 2 := ⟨_, rfl, clok_X5, Nat.le_of_ble_eq_true rfl, tb_519⟩
theorem fe_RX5_18 : qa_fe RX5 18 4 3 := ⟨_, rfl, clok_X5, Nat.le_of_ble_eq_true rfl, tb_521⟩
theorem fe_RX5_21 : qa_fe RX5 21 4 5 := ⟨_, rfl, clok_X5, Nat.le_of_ble_eq_true rfl, tb_524⟩
theorem fe_RX5_24 : qa_fe RX5 24 4 6 := ⟨_, rfl, clok_X5, Nat.le_of_ble_eq_true rfl, tb_525⟩
theorem fe_RX5_29 : qa_fe RX5 29 4 7 := ⟨_, rfl, clok_X5, Nat.le_of_ble_eq_true rfl, tb_526⟩
theorem fe_RX5_32 : qa_fe RX5 32 4 9 := ⟨_, rfl, clok_X5, Nat.le_of_ble_eq_true rfl, tb_528⟩
theorem fe_RX5_36 : qa_fe RX5 36 4 10 := ⟨_, rfl, clok_X5, Nat.le_of_ble_eq_true rfl, tb_529⟩
theorem fe_RX5_39 : qa_fe RX5 39 4 0 := ⟨_, rfl, clok_X5, Nat.le_of_ble_eq_true rfl, tb_515⟩
theorem fe_RX5_43 : qa_fe RX5 43 4 4 := ⟨_, rfl, clok_X5, Nat.le_of_ble_eq_true rfl, tb_523⟩
theorem fe_RX5_46 : qa_fe RX5 46 4 8 := ⟨_, rfl, clok_X5, Nat.le_of_ble_eq_true rfl, tb_527⟩
theorem fe_RX5_49 : qa_fe RX5 49 2 6 := ⟨_, rfl, clok_X3, Nat.le_of_ble_eq_true rfl, tb_226⟩
theorem fe_RX6_9 : qa_fe RX6 9 5 0 := ⟨_, rfl, clok_X6, Nat.le_of_ble_eq_true rfl, tb_334⟩
theorem fe_RX6_15 : qa_fe RX6 15 5 1 := ⟨_, rfl, clok_X6, Nat.le_of_ble_eq_true rfl, tb_335⟩
theorem fe_RX6_24 : qa_fe RX6 24 5 2 := ⟨_, rfl, clok_X6, Nat.le_of_ble_eq_true rfl, tb_336⟩
theorem fe_RX6_43 : qa_fe RX6 43 8 7 := ⟨_, rfl, clok_X9, Nat.le_of_ble_eq_true rfl, tb_171⟩
theorem fe_RX6_59 : qa_fe RX6 59 8 3 := ⟨_, rfl, clok_X9, Nat.le_of_ble_eq_true rfl, tb_160⟩
theorem fe_RX6_69 : qa_fe RX6 69 8 6 := ⟨_, rfl, clok_X9, Nat.le_of_ble_eq_true rfl, tb_167⟩
theorem fe_RX6_106 : qa_fe RX6 106 5 3 := ⟨_, rfl, clok_X6, Nat.le_of_ble_eq_true rfl, tb_337⟩
theorem fe_RX6_114 : qa_fe RX6 114 8 5 := ⟨_, rfl, clok_X9, Nat.le_of_ble_eq_true rfl, tb_166⟩
theorem fe_RX6_117 : qa_fe RX6 117 8 4 := ⟨_, rfl, clok_X9, Nat.le_of_ble_eq_true rfl, tb_164⟩
theorem fe_RX7_9 : qa_fe RX7 9 6 0 := ⟨_, rfl, clok_X7, Nat.le_of_ble_eq_true rfl, tb_359⟩
theorem fe_RX7_15 : qa_fe RX7 15 6 2 := ⟨_, rfl, clok_X7, Nat.le_of_ble_eq_true rfl, tb_361⟩
theorem fe_RX7_18 : qa_fe RX7 18 6 3 := ⟨_, rfl, clok_X7, Nat.le_of_ble_eq_true rfl, tb_362⟩
theorem fe_RX7_22 : qa_fe RX7 22 6 5 := ⟨_, rfl, clok_X7, Nat.le_of_ble_eq_true rfl, tb_364⟩
theorem fe_RX7_25 : qa_fe RX7 25 6 6 := ⟨_, rfl, clok_X7, Nat.le_of_ble_eq_true rfl, tb_365⟩
theorem fe_RX7_28 : qa_fe RX7 28 6 9 := ⟨_, rfl, clok_X7, Nat.le_of_ble_eq_true rfl, tb_368⟩
theorem fe_RX7_31 : qa_fe RX7 31 6 10 := ⟨_, rfl, clok_X7, Nat.le_of_ble_eq_true rfl, tb_369⟩
theorem fe_RX7_34 : qa_fe RX7 34 6 11 := ⟨_, rfl, clok_X7, Nat.le_of_ble_eq_true rfl, tb_370⟩
theorem fe_RX7_37 : qa_fe RX7 37 6 13 := ⟨_, rfl, clok_X7, Nat.le_of_ble_eq_true rfl, tb_372⟩
theorem fe_RX7_40 : qa_fe RX7 40 6 14 := ⟨_, rfl, clok_X7, Nat.le_of_ble_eq_true rfl, tb_373⟩
theorem fe_RX7_43 : qa_fe RX7 43 6 16 := ⟨_, rfl, clok_X7, Nat.le_of_ble_eq_true rfl, tb_377⟩
theorem fe_RX7_46 : qa_fe RX7 46 6 1 := ⟨_, rfl, clok_X7, Nat.le_of_ble_eq_true rfl, tb_360⟩
theorem fe_RX7_56 : qa_fe RX7 56 7 0 := ⟨_, rfl, clok_X8, Nat.le_of_ble_eq_true rfl, tb_275⟩
theorem fe_RX7_62 : qa_fe RX7 62 6 4 := ⟨_, rfl, clok_X7, Nat.le_of_ble_eq_true rfl, tb_363⟩
theorem fe_RX7_66 : qa_fe RX7 66 2 4 := ⟨_, rfl, clok_X3, Nat.le_of_ble_eq_true rfl, tb_217⟩
theorem fe_RX7_71 : qa_fe RX7 71 2 12 := ⟨_, rfl, clok_X3, Nat.le_of_ble_eq_true rfl, tb_244⟩
theorem fe_RX7_89 : qa_fe RX7 89 4 0 := ⟨_, rfl, clok_X5, Nat.le_of_ble_eq_true rfl, tb_516⟩
theorem fe_RX7_92 : qa_fe RX7 92 4 1 := ⟨_, rfl, clok_X5, Nat.le_of_ble_eq_true rfl, tb_518⟩
theorem fe_RX7_95 : qa_fe RX7 95 4 2 := ⟨_, rfl, clok_X5, Nat.le_of_ble_eq_true rfl, tb_520⟩
theorem fe_RX7_98 : qa_fe RX7 98 4 3 := ⟨_, rfl, clok_X5, Nat.le_of_ble_eq_true rfl, tb_522⟩
theorem fe_RX7_111 : qa_fe RX7 111 6 7 := ⟨_, rfl, clok_X7, Nat.le_of_ble_eq_true rfl, tb_366⟩
theorem fe_RX7_115 : qa_fe RX7 115 6 8 := ⟨_, rfl, clok_X7, Nat.le_of_ble_eq_true rfl, tb_367⟩
theorem fe_RX7_118 : qa_fe RX7 118 6 12 := ⟨_, rfl, clok_X7, Nat.le_of_ble_eq_true rfl, tb_371⟩
theorem fe_RX7_127 : qa_fe RX7 127 7 1 := ⟨_, rfl, clok_X8, Nat.le_of_ble_eq_true rfl, tb_280⟩
theorem fe_RX7_147 : qa_fe RX7 147 6 15 := ⟨_, rfl, clok_X7, Nat.le_of_ble_eq_true rfl, tb_376⟩
theorem fe_RX8_12 : qa_fe RX8 12 7 0 := ⟨_, rfl, clok_X8, Nat.le_of_ble_eq_true rfl, tb_274⟩
theorem fe_RX8_18 : qa_fe RX8 18 7 2 := ⟨_, rfl, clok_X8, Nat.le_of_ble_eq_true rfl, tb_281⟩
theorem fe_RX8_22 : qa_fe RX8 22 7 3 := ⟨_, rfl, clok_X8, Nat.le_of_ble_eq_true rfl, tb_282⟩
theorem fe_RX8_30 : qa_fe RX8 30 7 1 := ⟨_, rfl, clok_X8, Nat.le_of_ble_eq_true rfl, tb_277⟩
theorem fe_RX8_39 : qa_fe RX8 39 7 4 := ⟨_, rfl, clok_X8, Nat.le_of_ble_eq_true rfl, tb_284⟩
theorem fe_RX8_46 : qa_fe RX8 46 2 10 := ⟨_, rfl, clok_X3, Nat.le_of_ble_eq_true rfl, tb_238⟩
theorem fe_RX8_50 : qa_fe RX8 50 2 11 := ⟨_, rfl, clok_X3, Nat.le_of_ble_eq_true rfl, tb_241⟩
theorem fe_RX9_11 : qa_fe RX9 11 8 0 := ⟨_, rfl, clok_X9, Nat.le_of_ble_eq_true rfl, tb_155⟩
theorem fe_RX9_15 : qa_fe RX9 15 8 1 := ⟨_, rfl, clok_X9, Nat.le_of_ble_eq_true rfl, tb_157⟩
theorem fe_RX9_19 : qa_fe RX9 19 8 2 := ⟨_, rfl, clok_X9, Nat.le_of_ble_eq_true rfl, tb_158⟩
theorem fe_RX9_22 : qa_fe RX9 22 8 7 := ⟨_, rfl, clok_X9, Nat.le_of_ble_eq_true rfl, tb_172⟩
theorem fe_RX9_28 : qa_fe RX9 28 8 4 := ⟨_, rfl, clok_X9, Nat.le_of_ble_eq_true rfl, tb_162⟩
theorem fe_RX9_31 : qa_fe RX9 31 8 5 := ⟨_, rfl, clok_X9, Nat.le_of_ble_eq_true rfl, tb_165⟩
theorem fe_RX9_34 : qa_fe RX9 34 8 3 := ⟨_, rfl, clok_X9, Nat.le_of_ble_eq_true rfl, tb_161⟩
theorem fe_RX9_50 : qa_fe RX9 50 8 6 := ⟨_, rfl, clok_X9, Nat.le_of_ble_eq_true rfl, tb_169⟩
theorem fe_RX10_9 : qa_fe RX10 9 9 0 := ⟨_, rfl, clok_X10, Nat.le_of_ble_eq_true rfl, tb_503⟩
theorem fe_RX10_15 : qa_fe RX10 15 9 1 := ⟨_, rfl, clok_X10, Nat.le_of_ble_eq_true rfl, tb_504⟩
theorem fe_RX10_18 : qa_fe RX10 18 2 2 := ⟨_, rfl, clok_X3, Nat.le_of_ble_eq_true rfl, tb_210⟩
theorem fe_RX10_45 : qa_fe RX10 45 2 8 := ⟨_, rfl, clok_X3, Nat.le_of_ble_eq_true rfl, tb_232⟩
theorem fe_RX12_7 : qa_fe RX12 7 11 1 := ⟨_, rfl, clok_X12, Nat.le_of_ble_eq_true rfl, tb_1336⟩
theorem fe_RX12_13 : qa_fe RX12 13 11 2 := ⟨_, rfl, clok_X12, Nat.le_of_ble_eq_true rfl, tb_1337⟩
theorem fe_RX12_16 : qa_fe RX12 16 11 3 := ⟨_, rfl, clok_X12, Nat.le_of_ble_eq_true rfl, tb_1338⟩
theorem fe_RX12_19 : qa_fe RX12 19 11 4 := ⟨_, rfl, clok_X12, Nat.le_of_ble_eq_true rfl, tb_1339⟩
theorem fe_RX12_22 : qa_fe RX12 22 11 5 := ⟨_, rfl, clok_X12, Nat.le_of_ble_eq_true rfl, tb_1340⟩
theorem fe_RX12_25 : qa_fe RX12 25 11 6 := ⟨_, rfl, clok_X12, Nat.le_of_ble_eq_true rfl, tb_1341⟩
theorem fe_RX12_28 : qa_fe RX12 28 11 7 := ⟨_, rfl, clok_X12, Nat.le_of_ble_eq_true rfl, tb_1342⟩
theorem fe_RX12_31 : qa_fe RX12 31 11 8 := ⟨_, rfl, clok_X12, Nat.le_of_ble_eq_true rfl, tb_1343⟩
theorem fe_RX12_34 : qa_fe RX12 34 11 9 := ⟨_, rfl, clok_X12, Nat.le_of_ble_eq_true rfl, tb_1344⟩
theorem fe_RX12_37 : qa_fe RX12 37 11 10 := ⟨_, rfl, clok_X12, Nat.le_of_ble_eq_true rfl, tb_1345⟩
theorem fe_RX12_40 : qa_fe RX12 40 11 11 := ⟨_, rfl, clok_X12, Nat.le_of_ble_eq_true rfl, tb_1346⟩
theorem fe_RX12_43 : qa_fe RX12 43 11 12 := ⟨_, rfl, clok_X12, Nat.le_of_ble_eq_true rfl, tb_1347⟩
theorem fe_RX12_46 : qa_fe RX12 46 11 13 := ⟨_, rfl, clok_X12, Nat.le_of_ble_eq_true rfl, tb_1348⟩
theorem fe_RX12_49 : qa_fe RX12 49 11 14 := ⟨_, rfl, clok_X12, Nat.le_of_ble_eq_true rfl, tb_1349⟩
theorem fe_RX12_52 : qa_fe RX12 52 11 15 := ⟨_, rfl, clok_X12, Nat.le_of_ble_eq_true rfl, tb_1350⟩
theorem fe_RX12_55 : qa_fe RX12 55 11 16 := ⟨_, rfl, clok_X12, Nat.le_of_ble_eq_true rfl, tb_1351⟩
theorem fe_RX12_58 : qa_fe RX12 58 11 17 := ⟨_, rfl, clok_X12, Nat.le_of_ble_eq_true rfl, tb_1352⟩
theorem fe_RX12_61 : qa_fe RX12 61 11 18 := ⟨_, rfl, clok_X12, Nat.le_of_ble_eq_true rfl, tb_1353⟩
theorem fe_RX12_64 : qa_fe RX12 64 11 19 := ⟨_, rfl, clok_X12, Nat.le_of_ble_eq_true rfl, tb_1354⟩
theorem fe_RX12_67 : qa_fe RX12 67 11 29 := ⟨_, rfl, clok_X12, Nat.le_of_ble_eq_true rfl, tb_1364⟩
theorem fe_RX12_71 : qa_fe RX12 71 11 30 := ⟨_, rfl, clok_X12, Nat.le_of_ble_eq_true rfl, tb_1365⟩
theorem fe_RX12_75 : qa_fe RX12 75 11 31 := ⟨_, rfl, clok_X12, Nat.le_of_ble_eq_true rfl, tb_1366⟩
theorem fe_RX12_78 : qa_fe RX12 78 11 32 := ⟨_, rfl, clok_X12, Nat.le_of_ble_eq_true rfl, tb_1367⟩
theorem fe_RX12_81 : qa_fe RX12 81 11 33 := ⟨_, rfl, clok_X12, Nat.le_of_ble_eq_true rfl, tb_1368⟩
theorem fe_RX12_84 : qa_fe RX12 84 11 34 := ⟨_, rfl, clok_X12, Nat.le_of_ble_eq_true rfl, tb_1369⟩
theorem fe_RX12_87 : qa_fe RX12 87 11 35 := ⟨_, rfl, clok_X12, Nat.le_of_ble_eq_true rfl, tb_1370⟩
theorem fe_RX12_90 : qa_fe RX12 90 11 36 := ⟨_, rfl, clok_X12, Nat.le_of_ble_eq_true rfl, tb_1371⟩
theorem fe_RX12_93 : qa_fe RX12 93 11 37 := ⟨_, rfl, clok_X12, Nat.le_of_ble_eq_true rfl, tb_1372⟩
theorem fe_RX12_96 : qa_fe RX12 96 11 38 := ⟨_, rfl, clok_X12, Nat.le_of_ble_eq_true rfl, tb_1373⟩
theorem fe_RX12_99 : qa_fe RX12 99 11 39 := ⟨_, rfl, clok_X12, Nat.le_of_ble_eq_true rfl, tb_1374⟩
theorem fe_RX12_102 : qa_fe RX12 102 11 40 := ⟨_, rfl, clok_X12, Nat.le_of_ble_eq_true rfl, tb_1375⟩
theorem fe_RX12_106 : qa_fe RX12 106 11 41 := ⟨_, rfl, clok_X12, Nat.le_of_ble_eq_true rfl, tb_1376⟩
theorem fe_RX12_109 : qa_fe RX12 109 11 42 := ⟨_, rfl, clok_X12, Nat.le_of_ble_eq_true rfl, tb_1377⟩
theorem fe_RX12_112 : qa_fe RX12 112 11 43 := ⟨_, rfl, clok_X12, Nat.le_of_ble_eq_true rfl, tb_1378⟩
theorem fe_RX12_115 : qa_fe RX12 115 11 44 := ⟨_, rfl, clok_X12, Nat.le_of_ble_eq_true rfl, tb_1379⟩
theorem fe_RX12_118 : qa_fe RX12 118 11 45 := ⟨_, rfl, clok_X12, Nat.le_of_ble_eq_true rfl, tb_1380⟩
theorem fe_RX12_121 : qa_fe RX12 121 11 46 := ⟨_, rfl, clok_X12, Nat.le_of_ble_eq_true rfl, tb_1381⟩
theorem fe_RX12_124 : qa_fe RX12 124 11 47 := ⟨_, rfl, clok_X12, Nat.le_of_ble_eq_true rfl, tb_1382⟩
theorem fe_RX12_127 : qa_fe RX12 127 11 52 := ⟨_, rfl, clok_X12, Nat.le_of_ble_eq_true rfl, tb_1387⟩
theorem fe_RX12_130 : qa_fe RX12 130 11 53 := ⟨_, rfl, clok_X12, Nat.le_of_ble_eq_true rfl, tb_1388⟩
theorem fe_RX12_133 : qa_fe RX12 133 11 54 := ⟨_, rfl, clok_X12, Nat.le_of_ble_eq_true rfl, tb_1389⟩
theorem fe_RX12_136 : qa_fe RX12 136 11 55 := ⟨_, rfl, clok_X12, Nat.le_of_ble_eq_true rfl, tb_1390⟩
theorem fe_RX12_139 : qa_fe RX12 139 11 56 := ⟨_, rfl, clok_X12, Nat.le_of_ble_eq_true rfl, tb_1391⟩
theorem fe_RX12_142 : qa_fe RX12 142 11 57 := ⟨_, rfl, clok_X12, Nat.le_of_ble_eq_true rfl, tb_1392⟩
theorem fe_RX12_145 : qa_fe RX12 145 11 58 := ⟨_, rfl, clok_X12, Nat.le_of_ble_eq_true rfl, tb_1393⟩
theorem fe_RX12_148 : qa_fe RX12 148 11 59 := ⟨_, rfl, clok_X12, Nat.le_of_ble_eq_true rfl, tb_1394⟩
theorem fe_RX12_151 : qa_fe RX12 151 11 60 := ⟨_, rfl, clok_X12, Nat.le_of_ble_eq_true rfl, tb_1395⟩
theorem fe_RX12_154 : qa_fe RX12 154 11 61 := ⟨_, rfl, clok_X12, Nat.le_of_ble_eq_true rfl, tb_1396⟩
theorem fe_RX12_215 : qa_fe RX12 215 11 20 := ⟨_, rfl, clok_X12, Nat.le_of_ble_eq_true rfl, tb_1355⟩
theorem fe_RX12_240 : qa_fe RX12 240 11 22 := ⟨_, rfl, clok_X12, Nat.le_of_ble_eq_true rfl, tb_1357⟩
theorem fe_RX12_243 : qa_fe RX12 243 11 21 := ⟨_, rfl, clok_X12, Nat.le_of_ble_eq_true rfl, tb_1356⟩
theorem fe_RX12_270 : qa_fe RX12 270 11 23 := ⟨_, rfl, clok_X12, Nat.le_of_ble_eq_true rfl, tb_1358⟩
theorem fe_RX12_273 : qa_fe RX12 273 11 25 := ⟨_, rfl, clok_X12, Nat.le_of_ble_eq_true rfl, tb_1360⟩
theorem fe_RX12_276 : qa_fe RX12 276 11 27 := ⟨_, rfl, clok_X12, Nat.le_of_ble_eq_true rfl, tb_1362⟩
theorem fe_RX12_309 : qa_fe RX12 309 11 28 := ⟨_, rfl, clok_X12, Nat.le_of_ble_eq_true rfl, tb_1363⟩
theorem fe_RX12_312 : qa_fe RX12 312 11 26 := ⟨_, rfl, clok_X12, Nat.le_of_ble_eq_true rfl, tb_1361⟩
theorem fe_RX12_382 : qa_fe RX12 382 11 24 := ⟨_, rfl, clok_X12, Nat.le_of_ble_eq_true rfl, tb_1359⟩
theorem fe_RX12_424 : qa_fe RX12 424 11 48 := ⟨_, rfl, clok_X12, Nat.le_of_ble_eq_true rfl, tb_1383⟩
theorem fe_RX12_430 : qa_fe RX12 430 11 49 := ⟨_, rfl, clok_X12, Nat.le_of_ble_eq_true rfl, tb_1384⟩
theorem fe_RX12_458 : qa_fe RX12 458 11 50 := ⟨_, rfl, clok_X12, Nat.le_of_ble_eq_true rfl, tb_1385⟩
theorem fe_RX12_461 : qa_fe RX12 461 11 51 := ⟨_, rfl, clok_X12, Nat.le_of_ble_eq_true rfl, tb_1386⟩
theorem fe_RX12_527 : qa_fe RX12 527 11 63 := ⟨_, rfl, clok_X12, Nat.le_of_ble_eq_true rfl, tb_1398⟩
theorem fe_RX12_530 : qa_fe RX12 530 11 62 := ⟨_, rfl, clok_X12, Nat.le_of_ble_eq_true rfl, tb_1397⟩
theorem fd_RX11_92 : qa_fd RX11 92 10 13 .int false := ⟨_, rfl, clok_X11, Nat.le_of_ble_eq_true rfl, tb_566, by decide +kernel, rfl, fun h => by cases h⟩
theorem fd_RX11_97 : qa_fd RX11 97 8 1 .int false := ⟨_, rfl, clok_X9, Nat.le_of_ble_eq_true rfl, tb_156, by decide +kernel, rfl, fun h => by cases h⟩
theorem fd_RX11_115 : qa_fd RX11 115 7 1 .int false := ⟨_, rfl, clok_X8, Nat.le_of_ble_eq_true rfl, tb_279, by decide +kernel, rfl, fun h => by cases h⟩
theorem fd_RX11_121 : qa_fd RX11 121 10 5 .int false := ⟨_, rfl, clok_X11, Nat.le_of_ble_eq_true rfl, tb_558, by decide +kernel, rfl, fun h => by cases h⟩
theorem fd_RX11_127 : qa_fd RX11 127 7 3 .int false := ⟨_, rfl, clok_X8, Nat.le_of_ble_eq_true rfl, tb_283, by decide +kernel, rfl, fun h => by cases h⟩
theorem fd_RX11_271 : qa_fd RX11 271 7 4 .int false := ⟨_, rfl, clok_X8, Nat.le_of_ble_eq_true rfl, tb_285, by decide +kernel, rfl, fun h => by cases h⟩
theorem fd_RX11_282 : qa_fd RX11 282 10 14 .int false := ⟨_, rfl, clok_X11, Nat.le_of_ble_eq_true rfl, tb_567, by decide +kernel, rfl, fun h => by cases h⟩
theorem fd_RX0_22 : qa_fd RX0 22 0 8 (.array .int) false := ⟨_, rfl, clok_X0, Nat.le_of_ble_eq_true rfl, tb_456, by decide +kernel, rfl, fun h => by cases h⟩
theorem fd_RX0_34 : qa_fd RX0 34 0 14 .int false := ⟨_, rfl, clok_X0, Nat.le_of_ble_eq_true rfl, tb_462, by decide +kernel, rfl, fun h => by cases h⟩
theorem fd_RX0_38 : qa_fd RX0 38 0 15 .int false := ⟨_, rfl, clok_X0, Nat.le_of_ble_eq_true rfl, tb_463, by decide +kernel, rfl, fun h => by cases h⟩
theorem fd_RX0_41 : qa_fd RX0 41 0 4 .int false := ⟨_, rfl, clok_X0, Nat.le_of_ble_eq_true rfl, tb_452, by decide +kernel, rfl, fun h => by cases h⟩
theorem fd_RX0_44 : qa_fd RX0 44 0 5 .int false := ⟨_, rfl, clok_X0, Nat.le_of_ble_eq_true rfl, tb_453, by decide +kernel, rfl, fun h => by cases h⟩
theorem fd_RX0_47 : qa_fd RX0 47 0 6 .int false := ⟨_, rfl, clok_X0, Nat.le_of_ble_eq_true rfl, tb_454, by decide +kernel, rfl, fun h => by cases h⟩
theorem fd_RX0_87 : qa_fd RX0 87 0 0 .int false := ⟨_, rfl, clok_X0, Nat.le_of_ble_eq_true rfl, tb_448, by decide +kernel, rfl, fun h => by cases h⟩
theorem fd_RX0_134 : qa_fd RX0 134 0 12 .int false := ⟨_, rfl, clok_X0, Nat.le_of_ble_eq_true rfl, tb_460, by decide +kernel, rfl, fun h => by cases h⟩
theorem fd_RX0_137 : qa_fd RX0 137 0 13 .int false := ⟨_, rfl, clok_X0, Nat.le_of_ble_eq_true rfl, tb_461, by decide +kernel, rfl, fun h => by cases h⟩
theorem fd_RX0_140 : qa_fd RX0 140 0 7 .int false := ⟨_, rfl, clok_X0, Nat.le_of_ble_eq_true rfl, tb_455, by decide +kernel, rfl, fun h => by cases h⟩
theorem fd_RX1_28 : qa_fd RX1 28 1 0 .int false := ⟨_, rfl, clok_X1, Nat.le_of_ble_eq_true rfl, tb_420, by decide +kernel, rfl, fun h => by cases h⟩
theorem fd_RX1_83 : qa_fd RX1 83 1 4 .int false := ⟨_, rfl, clok_X1, Nat.le_of_ble_eq_true rfl, tb_424, by decide +kernel, rfl, fun h => by cases h⟩
theorem fd_RX3_28 : qa_fd RX3 28 2 0 .int false := ⟨_, rfl, clok_X3, Nat.le_of_ble_eq_true rfl, tb_203, by decide +kernel, rfl, fun h => by cases h⟩
theorem fd_RX3_32 : qa_fd RX3 32 2 1 .int false := ⟨_, rfl, clok_X3, Nat.le_of_ble_eq_true rfl, tb_206, by decide +kernel, rfl, fun h => by cases h⟩
theorem fd_RX3_35 : qa_fd RX3 35 2 2 .int false := ⟨_, rfl, clok_X3, Nat.le_of_ble_eq_true rfl, tb_209, by decide +kernel, rfl, fun h => by cases h⟩
theorem fd_RX3_38 : qa_fd RX3 38 2 3 .int false := ⟨_, rfl, clok_X3, Nat.le_of_ble_eq_true rfl, tb_214, by decide +kernel, rfl, fun h => by cases h⟩
theorem fd_RX3_41 : qa_fd RX3 41 2 4 .int false := ⟨_, rfl, clok_X3, Nat.le_of_ble_eq_true rfl, tb_218, by decide +kernel, rfl, fun h => by cases h⟩
theorem fd_RX3_44 : qa_fd RX3 44 2 5 .int false := ⟨_, rfl, clok_X3, Nat.le_of_ble_eq_true rfl, tb_222, by decide +kernel, rfl, fun h => by cases h⟩
theorem fd_RX3_47 : qa_fd RX3 47 2 6 .long false := ⟨_, rfl, clok_X3, Nat.le_of_ble_eq_true rfl, tb_225, by decide +kernel, rfl, fun h => by cases h⟩
theorem fd_RX3_51 : qa_fd RX3 51 2 7 .long false := ⟨_, rfl, clok_X3, Nat.le_of_ble_eq_true rfl, tb_228, by decide +kernel, rfl, fun h => by cases h⟩
theorem fd_RX4_77 : qa_fd RX4 77 2 2 .int false := ⟨_, rfl, clok_X3, Nat.le_of_ble_eq_true rfl, tb_212, by decide +kernel, rfl, fun h => by cases h⟩
theorem fd_RX4_80 : qa_fd RX4 80 2 3 .int false := ⟨_, rfl, clok_X3, Nat.le_of_ble_eq_true rfl, tb_215, by decide +kernel, rfl, fun h => by cases h⟩
theorem fd_RX4_83 : qa_fd RX4 83 2 4 .int false := ⟨_, rfl, clok_X3, Nat.le_of_ble_eq_true rfl, tb_220, by decide +kernel, rfl, fun h => by cases h⟩
theorem fd_RX4_93 : qa_fd RX4 93 2 0 .int false := ⟨_, rfl, clok_X3, Nat.le_of_ble_eq_true rfl, tb_204, by decide +kernel, rfl, fun h => by cases h⟩
theorem fd_RX4_96 : qa_fd RX4 96 2 1 .int false := ⟨_, rfl, clok_X3, Nat.le_of_ble_eq_true rfl, tb_207, by decide +kernel, rfl, fun h => by cases h⟩
theorem fd_RX4_99 : qa_fd RX4 99 3 2 .int false := ⟨_, rfl, clok_X4, Nat.le_of_ble_eq_true rfl, tb_310, by decide +kernel, rfl, fun h => by cases h⟩
theorem fd_RX4_102 : qa_fd RX4 102 3 3 .int false := ⟨_, rfl, clok_X4, Nat.le_of_ble_eq_true rfl, tb_311, by decide +kernel, rfl, fun h => by cases h⟩
theorem fd_RX4_108 : qa_fd RX4 108 3 4 .int false := ⟨_, rfl, clok_X4, Nat.le_of_ble_eq_true rfl, tb_312, by decide +kernel, rfl, fun h => by cases h⟩
theorem fd_RX4_111 : qa_fd RX4 111 3 5 .int false := ⟨_, rfl, clok_X4, Nat.le_of_ble_eq_true rfl, tb_313, by decide +kernel, rfl, fun h => by cases h⟩
theorem fd_RX4_117 : qa_fd RX4 117 2 7 .long false := ⟨_, rfl, clok_X3, Nat.le_of_ble_eq_true rfl, tb_229, by decide +kernel, rfl, fun h => by cases h⟩
theorem fd_RX4_148 : qa_fd RX4 148 2 5 .int false := ⟨_, rfl, clok_X3, Nat.le_of_ble_eq_true rfl, tb_223, by decide +kernel, rfl, fun h => by cases h⟩
theorem fd_RX5_39 : qa_fd RX5 39 4 0 .int false := ⟨_, rfl, clok_X5, Nat.le_of_ble_eq_true rfl, tb_515, by decide +kernel, rfl, fun h => by cases h⟩
theorem fd_RX5_43 : qa_fd RX5 43 4 4 .int false := ⟨_, rfl, clok_X5, Nat.le_of_ble_eq_true rfl, tb_523, by decide +kernel, rfl, fun h => by cases h⟩
theorem fd_RX5_46 : qa_fd RX5 46 4 8 .int false := ⟨_, rfl, clok_X5, Nat.le_of_ble_eq_true rfl, tb_527, by decide +kernel, rfl, fun h => by cases h⟩
theorem fd_RX6_15 : qa_fd RX6 15 5 1 (.object "MapsOfNothing$Law") false := ⟨_, rfl, clok_X6, Nat.le_of_ble_eq_true rfl, tb_335, by decide +kernel, rfl, fun h => by cases h⟩
theorem fd_RX6_24 : qa_fd RX6 24 5 2 .int false := ⟨_, rfl, clok_X6, Nat.le_of_ble_eq_true rfl, tb_336, by decide +kernel, rfl, fun h => by cases h⟩
theorem fd_RX6_106 : qa_fd RX6 106 5 3 .int false := ⟨_, rfl, clok_X6, Nat.le_of_ble_eq_true rfl, tb_337, by decide +kernel, rfl, fun h => by cases h⟩
theorem fd_RX7_62 : qa_fd RX7 62 6 4 .int false := ⟨_, rfl, clok_X7, Nat.le_of_ble_eq_true rfl, tb_363, by decide +kernel, rfl, fun h => by cases h⟩
theorem fd_RX7_111 : qa_fd RX7 111 6 7 .boolean false := ⟨_, rfl, clok_X7, Nat.le_of_ble_eq_true rfl, tb_366, by decide +kernel, rfl, fun h => by cases h⟩
theorem fd_RX7_115 : qa_fd RX7 115 6 8 .int false := ⟨_, rfl, clok_X7, Nat.le_of_ble_eq_true rfl, tb_367, by decide +kernel, rfl, fun h => by cases h⟩
theorem fd_RX7_118 : qa_fd RX7 118 6 12 .int false := ⟨_, rfl, clok_X7, Nat.le_of_ble_eq_true rfl, tb_371, by decide +kernel, rfl, fun h => by cases h⟩
theorem fd_RX7_147 : qa_fd RX7 147 6 15 .long false := ⟨_, rfl, clok_X7, Nat.le_of_ble_eq_true rfl, tb_376, by decide +kernel, rfl, fun h => by cases h⟩
theorem fd_RX8_22 : qa_fd RX8 22 7 3 .int false := ⟨_, rfl, clok_X8, Nat.le_of_ble_eq_true rfl, tb_282, by decide +kernel, rfl, fun h => by cases h⟩
theorem fd_RX8_30 : qa_fd RX8 30 7 1 .int false := ⟨_, rfl, clok_X8, Nat.le_of_ble_eq_true rfl, tb_277, by decide +kernel, rfl, fun h => by cases h⟩
theorem fd_RX8_39 : qa_fd RX8 39 7 4 .int false := ⟨_, rfl, clok_X8, Nat.le_of_ble_eq_true rfl, tb_284, by decide +kernel, rfl, fun h => by cases h⟩
theorem fd_RX9_15 : qa_fd RX9 15 8 1 .int false := ⟨_, rfl, clok_X9, Nat.le_of_ble_eq_true rfl, tb_157, by decide +kernel, rfl, fun h => by cases h⟩
theorem fd_RX9_19 : qa_fd RX9 19 8 2 .int false := ⟨_, rfl, clok_X9, Nat.le_of_ble_eq_true rfl, tb_158, by decide +kernel, rfl, fun h => by cases h⟩
theorem fd_RX9_22 : qa_fd RX9 22 8 7 .int false := ⟨_, rfl, clok_X9, Nat.le_of_ble_eq_true rfl, tb_172, by decide +kernel, rfl, fun h => by cases h⟩
theorem fd_RX9_28 : qa_fd RX9 28 8 4 .int false := ⟨_, rfl, clok_X9, Nat.le_of_ble_eq_true rfl, tb_162, by decide +kernel, rfl, fun h => by cases h⟩
theorem fd_RX9_31 : qa_fd RX9 31 8 5 .int false := ⟨_, rfl, clok_X9, Nat.le_of_ble_eq_true rfl, tb_165, by decide +kernel, rfl, fun h => by cases h⟩
theorem fd_RX9_34 : qa_fd RX9 34 8 3 .int false := ⟨_, rfl, clok_X9, Nat.le_of_ble_eq_true rfl, tb_161, by decide +kernel, rfl, fun h => by cases h⟩
theorem fd_RX9_50 : qa_fd RX9 50 8 6 .int false := ⟨_, rfl, clok_X9, Nat.le_of_ble_eq_true rfl, tb_169, by decide +kernel, rfl, fun h => by cases h⟩
theorem fd_RX12_215 : qa_fd RX12 215 11 20 .int false := ⟨_, rfl, clok_X12, Nat.le_of_ble_eq_true rfl, tb_1355, by decide +kernel, rfl, fun h => by cases h⟩
theorem fd_RX12_240 : qa_fd RX12 240 11 22 .int false := ⟨_, rfl, clok_X12, Nat.le_of_ble_eq_true rfl, tb_1357, by decide +kernel, rfl, fun h => by cases h⟩
theorem fd_RX12_243 : qa_fd RX12 243 11 21 .int false := ⟨_, rfl, clok_X12, Nat.le_of_ble_eq_true rfl, tb_1356, by decide +kernel, rfl, fun h => by cases h⟩
theorem fd_RX12_270 : qa_fd RX12 270 11 23 .int false := ⟨_, rfl, clok_X12, Nat.le_of_ble_eq_true rfl, tb_1358, by decide +kernel, rfl, fun h => by cases h⟩
theorem fd_RX12_273 : qa_fd RX12 273 11 25 .int false := ⟨_, rfl, clok_X12, Nat.le_of_ble_eq_true rfl, tb_1360, by decide +kernel, rfl, fun h => by cases h⟩
theorem fd_RX12_276 : qa_fd RX12 276 11 27 .int false := ⟨_, rfl, clok_X12, Nat.le_of_ble_eq_true rfl, tb_1362, by decide +kernel, rfl, fun h => by cases h⟩
theorem fd_RX12_309 : qa_fd RX12 309 11 28 .int false := ⟨_, rfl, clok_X12, Nat.le_of_ble_eq_true rfl, tb_1363, by decide +kernel, rfl, fun h => by cases h⟩
theorem fd_RX12_312 : qa_fd RX12 312 11 26 .int false := ⟨_, rfl, clok_X12, Nat.le_of_ble_eq_true rfl, tb_1361, by decide +kernel, rfl, fun h => by cases h⟩
theorem fd_RX12_382 : qa_fd RX12 382 11 24 .int false := ⟨_, rfl, clok_X12, Nat.le_of_ble_eq_true rfl, tb_1359, by decide +kernel, rfl, fun h => by cases h⟩
theorem fd_RX12_424 : qa_fd RX12 424 11 48 .int false := ⟨_, rfl, clok_X12, Nat.le_of_ble_eq_true rfl, tb_1383, by decide +kernel, rfl, fun h => by cases h⟩
theorem fd_RX12_430 : qa_fd RX12 430 11 49 .boolean false := ⟨_, rfl, clok_X12, Nat.le_of_ble_eq_true rfl, tb_1384, by decide +kernel, rfl, fun h => by cases h⟩
theorem fd_RX12_458 : qa_fd RX12 458 11 50 .int false := ⟨_, rfl, clok_X12, Nat.le_of_ble_eq_true rfl, tb_1385, by decide +kernel, rfl, fun h => by cases h⟩
theorem fd_RX12_461 : qa_fd RX12 461 11 51 .int false := ⟨_, rfl, clok_X12, Nat.le_of_ble_eq_true rfl, tb_1386, by decide +kernel, rfl, fun h => by cases h⟩
theorem fd_RX12_527 : qa_fd RX12 527 11 63 .boolean false := ⟨_, rfl, clok_X12, Nat.le_of_ble_eq_true rfl, tb_1398, by decide +kernel, rfl, fun h => by cases h⟩
theorem fd_RX12_530 : qa_fd RX12 530 11 62 .int false := ⟨_, rfl, clok_X12, Nat.le_of_ble_eq_true rfl, tb_1397, by decide +kernel, rfl, fun h => by cases h⟩
theorem cv_RX11_100 : qa_cv RX11 100 (yX9_append, cX9_append, 3, none) 1 := ⟨tb_603, tb_604, tb_605, tb_120, tb_606, ⟨by decide +kernel, by decide +kernel, by decide +kernel⟩, Nat.le_of_ble_eq_true rfl⟩
theorem cv_RX11_104 : qa_cv RX11 104 (yX4_read, cX4_read, 2, (some .int)) 0 := ⟨tb_615, tb_616, tb_617, tb_123, tb_618, ⟨by decide +kernel, by decide +kernel, by decide +kernel⟩, Nat.le_of_ble_eq_true rfl⟩
theorem cv_RX11_111 : qa_cv RX11 111 (yX3_copy, cX3_copy, 2, none) 1 := ⟨tb_772, tb_773, tb_774, tb_122, tb_775, ⟨by decide +kernel, by decide +kernel, by decide +kernel⟩, Nat.le_of_ble_eq_true rfl⟩
theorem cv_RX11_124 : qa_cv RX11 124 (yX6_read, cX6_read, 4, (some .int)) 1 := ⟨tb_784, tb_785, tb_786, tb_124, tb_787, ⟨by decide +kernel, by decide +kernel, by decide +kernel⟩, Nat.le_of_ble_eq_true rfl⟩
theorem cv_RX11_130 : qa_cs RX11 130 (yX11_within, cX11_within, 2, (some .boolean)) 2 := ⟨tb_863, tb_864, tb_119, tb_865, ⟨by decide +kernel, by decide +kernel, by decide +kernel⟩, Nat.le_of_ble_eq_true rfl⟩
theorem cv_RX11_140 : qa_cv RX11 140 (yX8_write, cX8_write, 7, none) 5 := ⟨tb_866, tb_867, tb_868, tb_121, tb_869, ⟨by decide +kernel, by decide +kernel, by decide +kernel⟩, Nat.le_of_ble_eq_true rfl⟩
theorem cv_RX11_144 : qa_cv RX11 144 (yX3_holds, cX3_holds, 3, (some .boolean)) 2 := ⟨tb_874, tb_875, tb_876, tb_122, tb_877, ⟨by decide +kernel, by decide +kernel, by decide +kernel⟩, Nat.le_of_ble_eq_true rfl⟩
theorem cv_RX11_151 : qa_cv RX11 151 (yX3_hillOn, cX3_hillOn, 3, (some .int)) 1 := ⟨tb_879, tb_732, tb_733, tb_122, tb_734, ⟨by decide +kernel, by decide +kernel, by decide +kernel⟩, Nat.le_of_ble_eq_true rfl⟩
theorem cv_RX11_155 : qa_cv RX11 155 (yX3_hillsThatSee, cX3_hillsThatSee, 4, (some .int)) 1 := ⟨tb_880, tb_881, tb_882, tb_122, tb_883, ⟨by decide +kernel, by decide +kernel, by decide +kernel⟩, Nat.le_of_ble_eq_true rfl⟩
theorem cv_RX11_158 : qa_cv RX11 158 (yX3_roadsOf, cX3_roadsOf, 4, (some .int)) 1 := ⟨tb_884, tb_885, tb_886, tb_122, tb_887, ⟨by decide +kernel, by decide +kernel, by decide +kernel⟩, Nat.le_of_ble_eq_true rfl⟩
theorem cv_RX11_161 : qa_cv RX11 161 (yX3_woodsBeside, cX3_woodsBeside, 4, (some .int)) 1 := ⟨tb_888, tb_889, tb_890, tb_122, tb_891, ⟨by decide +kernel, by decide +kernel, by decide +kernel⟩, Nat.le_of_ble_eq_true rfl⟩
theorem cv_RX11_164 : qa_cv RX11 164 (yX11_prepare, cX11_prepare, 1, none) 0 := ⟨tb_899, tb_901, tb_20, tb_119, tb_902, ⟨by decide +kernel, by decide +kernel, by decide +kernel⟩, Nat.le_of_ble_eq_true rfl⟩
theorem cv_RX11_167 : qa_cv RX11 167 (yX7_barredAt, cX7_barredAt, 4, (some .int)) 1 := ⟨tb_947, tb_948, tb_949, tb_125, tb_950, ⟨by decide +kernel, by decide +kernel, by decide +kernel⟩, Nat.le_of_ble_eq_true rfl⟩
theorem cv_RX11_176 : qa_cv RX11 176 (yX3_told, cX3_told, 1, (some .boolean)) 0 := ⟨tb_960, tb_961, tb_962, tb_122, tb_963, ⟨by decide +kernel, by decide +kernel, by decide +kernel⟩, Nat.le_of_ble_eq_true rfl⟩
theorem cv_RX11_183 : qa_cv RX11 183 (yX8_fact, cX8_fact, 3, (some .int)) 2 := ⟨tb_968, tb_969, tb_970, tb_121, tb_971, ⟨by decide +kernel, by decide +kernel, by decide +kernel⟩, Nat.le_of_ble_eq_true rfl⟩
theorem cv_RX11_187 : qa_cv RX11 187 (yX11_known, cX11_known, 2, (some .boolean)) 1 := ⟨tb_976, tb_978, tb_24, tb_119, tb_979, ⟨by decide +kernel, by decide +kernel, by decide +kernel⟩, Nat.le_of_ble_eq_true rfl⟩
theorem cv_RX11_191 : qa_cv RX11 191 (yX11_howMany, cX11_howMany, 2, (some .int)) 1 := ⟨tb_980, tb_982, tb_25, tb_119, tb_983, ⟨by decide +kernel, by decide +kernel, by decide +kernel⟩, Nat.le_of_ble_eq_true rfl⟩
theorem cv_RX11_194 : qa_cs RX11 194 (yX2_bit, cX2_bit, 2, (some .long)) 2 := ⟨tb_1038, tb_725, tb_126, tb_726, ⟨by decide +kernel, by decide +kernel, by decide +kernel⟩, Nat.le_of_ble_eq_true rfl⟩
theorem cv_RX11_200 : qa_cv RX11 200 (yX7_tally, cX7_tally, 8, none) 3 := ⟨tb_1039, tb_1040, tb_1041, tb_125, tb_1042, ⟨by decide +kernel, by decide +kernel, by decide +kernel⟩, Nat.le_of_ble_eq_true rfl⟩
theorem cv_RX11_208 : qa_cs RX11 208 (yX11_commonDivisor, cX11_commonDivisor, 6, (some .int)) 2 := ⟨tb_1051, tb_1052, tb_119, tb_1053, ⟨by decide +kernel, by decide +kernel, by decide +kernel⟩, Nat.le_of_ble_eq_true rfl⟩
theorem cv_RX11_211 : qa_cv RX11 211 (yX7_squareOf, cX7_squareOf, 7, (some .int)) 3 := ⟨tb_1058, tb_1059, tb_1060, tb_125, tb_1061, ⟨by decide +kernel, by decide +kernel, by decide +kernel⟩, Nat.le_of_ble_eq_true rfl⟩
theorem cv_RX11_221 : qa_cs RX11 221 (yX2_box, cX2_box, 8, (some .long)) 4 := ⟨tb_1069, tb_722, tb_126, tb_723, ⟨by decide +kernel, by decide +kernel, by decide +kernel⟩, Nat.le_of_ble_eq_true rfl⟩
theorem cv_RX11_225 : qa_cv RX11 225 (yX7_any, cX7_any, 2, (some .boolean)) 1 := ⟨tb_1078, tb_1079, tb_1080, tb_125, tb_1081, ⟨by decide +kernel, by decide +kernel, by decide +kernel⟩, Nat.le_of_ble_eq_true rfl⟩
theorem cv_RX11_228 : qa_cv RX11 228 (yX11_countAllSets, cX11_countAllSets, 1, none) 0 := ⟨tb_1086, tb_1088, tb_29, tb_119, tb_1089, ⟨by decide +kernel, by decide +kernel, by decide +kernel⟩, Nat.le_of_ble_eq_true rfl⟩
theorem cv_RX11_231 : qa_cv RX11 231 (yX1_fewestThatSayAsMuch, cX1_fewestThatSayAsMuch, 4, (some .int)) 1 := ⟨tb_1136, tb_1137, tb_1138, tb_127, tb_1139, ⟨by decide +kernel, by decide +kernel, by decide +kernel⟩, Nat.le_of_ble_eq_true rfl⟩
theorem cv_RX11_234 : qa_cv RX11 234 (yX1_fewestToLeaveOut, cX1_fewestToLeaveOut, 4, (some .int)) 1 := ⟨tb_1153, tb_1154, tb_1155, tb_127, tb_1156, ⟨by decide +kernel, by decide +kernel, by decide +kernel⟩, Nat.le_of_ble_eq_true rfl⟩
theorem cv_RX11_237 : qa_cv RX11 237 (yX1_fewestToDistrust, cX1_fewestToDistrust, 5, (some .int)) 2 := ⟨tb_1161, tb_1162, tb_1163, tb_127, tb_1164, ⟨by decide +kernel, by decide +kernel, by decide +kernel⟩, Nat.le_of_ble_eq_true rfl⟩
theorem cv_RX11_241 : qa_cv RX11 241 (yX11_lookFrom, cX11_lookFrom, 3, none) 2 := ⟨tb_1176, tb_1178, tb_35, tb_119, tb_1179, ⟨by decide +kernel, by decide +kernel, by decide +kernel⟩, Nat.le_of_ble_eq_true rfl⟩
theorem cv_RX11_245 : qa_cv RX11 245 (yX0_greatest, cX0_greatest, 4, (some .int)) 1 := ⟨tb_1208, tb_1209, tb_1210, tb_128, tb_1211, ⟨by decide +kernel, by decide +kernel, by decide +kernel⟩, Nat.le_of_ble_eq_true rfl⟩
theorem cv_RX11_248 : qa_cv RX11 248 (yX0_chooseView, cX0_chooseView, 2, none) 0 := ⟨tb_1217, tb_1218, tb_1219, tb_128, tb_1220, ⟨by decide +kernel, by decide +kernel, by decide +kernel⟩, Nat.le_of_ble_eq_true rfl⟩
theorem cv_RX11_251 : qa_cv RX11 251 (yX0_chosen, cX0_chosen, 2, (some .int)) 1 := ⟨tb_1230, tb_1231, tb_1232, tb_128, tb_1233, ⟨by decide +kernel, by decide +kernel, by decide +kernel⟩, Nat.le_of_ble_eq_true rfl⟩
theorem cv_RX11_254 : qa_cv RX11 254 (yX11_lookFromTwo, cX11_lookFromTwo, 2, none) 1 := ⟨tb_1238, tb_1240, tb_41, tb_119, tb_1241, ⟨by decide +kernel, by decide +kernel, by decide +kernel⟩, Nat.le_of_ble_eq_true rfl⟩
theorem cv_RX11_257 : qa_cv RX11 257 (yX0_chooseSecond, cX0_chooseSecond, 4, none) 2 := ⟨tb_1253, tb_1254, tb_1255, tb_128, tb_1256, ⟨by decide +kernel, by decide +kernel, by decide +kernel⟩, Nat.le_of_ble_eq_true rfl⟩
theorem cv_RX11_260 : qa_cv RX11 260 (yX0_chooseFirst, cX0_chooseFirst, 6, none) 0 := ⟨tb_1265, tb_1266, tb_1267, tb_128, tb_1268, ⟨by decide +kernel, by decide +kernel, by decide +kernel⟩, Nat.le_of_ble_eq_true rfl⟩
theorem cv_RX11_263 : qa_cv RX11 263 (yX3_open, cX3_open, 1, (some .long)) 0 := ⟨tb_1274, tb_993, tb_994, tb_122, tb_995, ⟨by decide +kernel, by decide +kernel, by decide +kernel⟩, Nat.le_of_ble_eq_true rfl⟩
theorem cv_RX11_267 : qa_cv RX11 267 (yX10_fewestSteps, cX10_fewestSteps, 7, (some .int)) 3 := ⟨tb_1279, tb_1280, tb_1281, tb_129, tb_1282, ⟨by decide +kernel, by decide +kernel, by decide +kernel⟩, Nat.le_of_ble_eq_true rfl⟩
theorem cv_RX11_274 : qa_cv RX11 274 (yX8_draw, cX8_draw, 1, (some .int)) 0 := ⟨tb_1304, tb_1305, tb_1306, tb_121, tb_1307, ⟨by decide +kernel, by decide +kernel, by decide +kernel⟩, Nat.le_of_ble_eq_true rfl⟩
theorem cv_RX11_280 : qa_cv RX11 280 (yX8_copy, cX8_copy, 2, none) 1 := ⟨tb_1320, tb_1321, tb_1322, tb_121, tb_1323, ⟨by decide +kernel, by decide +kernel, by decide +kernel⟩, Nat.le_of_ble_eq_true rfl⟩
theorem cv_RX11_285 : qa_cv RX11 285 (yX7_prepare, cX7_prepare, 5, none) 1 := ⟨tb_903, tb_904, tb_905, tb_125, tb_906, ⟨by decide +kernel, by decide +kernel, by decide +kernel⟩, Nat.le_of_ble_eq_true rfl⟩
theorem cv_RX11_288 : qa_cv RX11 288 (yX7_total, cX7_total, 4, (some .int)) 1 := ⟨tb_984, tb_985, tb_986, tb_125, tb_987, ⟨by decide +kernel, by decide +kernel, by decide +kernel⟩, Nat.le_of_ble_eq_true rfl⟩
theorem cv_RX11_291 : qa_cv RX11 291 (yX1_fill, cX1_fill, 5, none) 3 := ⟨tb_1090, tb_1091, tb_1092, tb_127, tb_1093, ⟨by decide +kernel, by decide +kernel, by decide +kernel⟩, Nat.le_of_ble_eq_true rfl⟩
theorem cv_RX11_295 : qa_cv RX11 295 (yX0_look, cX0_look, 8, none) 5 := ⟨tb_1180, tb_1181, tb_1182, tb_128, tb_1183, ⟨by decide +kernel, by decide +kernel, by decide +kernel⟩, Nat.le_of_ble_eq_true rfl⟩
theorem cv_RX11_299 : qa_cv RX11 299 (yX0_lookTwice, cX0_lookTwice, 7, none) 4 := ⟨tb_1242, tb_1243, tb_1244, tb_128, tb_1245, ⟨by decide +kernel, by decide +kernel, by decide +kernel⟩, Nat.le_of_ble_eq_true rfl⟩
theorem cv_RX0_50 : qa_cv RX0 50 (yX0_viewFromHills, cX0_viewFromHills, 3, none) 1 := ⟨tb_1184, tb_1186, tb_36, tb_128, tb_1187, ⟨by decide +kernel, by decide +kernel, by decide +kernel⟩, Nat.le_of_ble_eq_true rfl⟩
theorem cv_RX0_54 : qa_cv RX0 54 (yX0_viewFromSquares, cX0_viewFromSquares, 4, none) 2 := ⟨tb_1188, tb_1190, tb_37, tb_128, tb_1191, ⟨by decide +kernel, by decide +kernel, by decide +kernel⟩, Nat.le_of_ble_eq_true rfl⟩
theorem cv_RX0_58 : qa_cs RX0 58 (yJ7_fill_53178, cJ7_fill_53178, 4, none) 2 := ⟨tb_1194, tb_911, tb_139, tb_912, ⟨by decide +kernel, by decide +kernel, by decide +kernel⟩, Nat.le_of_ble_eq_true rfl⟩
theorem cv_RX0_64 : qa_cv RX0 64 (yX7_start, cX7_start, 4, none) 1 := ⟨tb_1195, tb_989, tb_990, tb_125, tb_991, ⟨by decide +kernel, by decide +kernel, by decide +kernel⟩, Nat.le_of_ble_eq_true rfl⟩
theorem cv_RX0_76 : qa_cv RX0 76 (yX7_step, cX7_step, 6, (some .boolean)) 0 := ⟨tb_1197, tb_1027, tb_1028, tb_125, tb_1029, ⟨by decide +kernel, by decide +kernel, by decide +kernel⟩, Nat.le_of_ble_eq_true rfl⟩
theorem cv_RX0_80 : qa_cv RX0 80 (yX0_countViews, cX0_countViews, 8, none) 2 := ⟨tb_1198, tb_1200, tb_38, tb_128, tb_1201, ⟨by decide +kernel, by decide +kernel, by decide +kernel⟩, Nat.le_of_ble_eq_true rfl⟩
theorem cv_RX0_93 : qa_cv RX0 93 (yX3_open, cX3_open, 1, (some .long)) 0 := ⟨tb_1192, tb_993, tb_994, tb_122, tb_995, ⟨by decide +kernel, by decide +kernel, by decide +kernel⟩, Nat.le_of_ble_eq_true rfl⟩
theorem cv_RX0_97 : qa_cv RX0 97 (yX3_view, cX3_view, 6, (some .long)) 2 := ⟨tb_1193, tb_751, tb_752, tb_122, tb_753, ⟨by decide +kernel, by decide +kernel, by decide +kernel⟩, Nat.le_of_ble_eq_true rfl⟩
theorem cv_RX0_104 : qa_cs RX0 104 (yJ13_bitCount_95d88, cJ13_bitCount_95d88, 2, (some .int)) 1 := ⟨tb_1202, tb_894, tb_138, tb_895, ⟨by decide +kernel, by decide +kernel, by decide +kernel⟩, Nat.le_of_ble_eq_true rfl⟩
theorem cv_RX0_110 : qa_cv RX0 110 (yX7_lastSort, cX7_lastSort, 1, (some .int)) 0 := ⟨tb_1203, tb_1044, tb_1045, tb_125, tb_1046, ⟨by decide +kernel, by decide +kernel, by decide +kernel⟩, Nat.le_of_ble_eq_true rfl⟩
theorem cv_RX0_114 : qa_cv RX0 114 (yX7_sortsOn, cX7_sortsOn, 5, (some .int)) 1 := ⟨tb_1204, tb_1205, tb_1206, tb_125, tb_1207, ⟨by decide +kernel, by decide +kernel, by decide +kernel⟩, Nat.le_of_ble_eq_true rfl⟩
theorem cv_RX0_123 : qa_cv RX0 123 (yX0_forget, cX0_forget, 1, none) 0 := ⟨tb_1221, tb_1223, tb_39, tb_128, tb_1224, ⟨by decide +kernel, by decide +kernel, by decide +kernel⟩, Nat.le_of_ble_eq_true rfl⟩
theorem cv_RX0_126 : qa_cv RX0 126 (yX0_greatest, cX0_greatest, 4, (some .int)) 1 := ⟨tb_1225, tb_1209, tb_1210, tb_128, tb_1211, ⟨by decide +kernel, by decide +kernel, by decide +kernel⟩, Nat.le_of_ble_eq_true rfl⟩
theorem cv_RX0_130 : qa_cv RX0 130 (yX0_choose, cX0_choose, 3, none) 2 := ⟨tb_1226, tb_1228, tb_40, tb_128, tb_1229, ⟨by decide +kernel, by decide +kernel, by decide +kernel⟩, Nat.le_of_ble_eq_true rfl⟩
theorem cv_RX0_141 : qa_cv RX0 141 (yX0_countPairs, cX0_countPairs, 9, none) 3 := ⟨tb_1246, tb_1248, tb_42, tb_128, tb_1249, ⟨by decide +kernel, by decide +kernel, by decide +kernel⟩, Nat.le_of_ble_eq_true rfl⟩
theorem cv_RX0_145 : qa_cs RX0 145 (yX0_spot, cX0_spot, 4, (some .int)) 4 := ⟨tb_1250, tb_1251, tb_128, tb_1252, ⟨by decide +kernel, by decide +kernel, by decide +kernel⟩, Nat.le_of_ble_eq_true rfl⟩
theorem cv_RX0_149 : qa_cv RX0 149 (yX0_greatestAfter, cX0_greatestAfter, 6, (some .int)) 3 := ⟨tb_1257, tb_1259, tb_43, tb_128, tb_1260, ⟨by decide +kernel, by decide +kernel, by decide +kernel⟩, Nat.le_of_ble_eq_true rfl⟩
theorem cv_RX0_153 : qa_cv RX0 153 (yX0_chooseSecond, cX0_chooseSecond, 4, none) 2 := ⟨tb_1269, tb_1254, tb_1255, tb_128, tb_1256, ⟨by decide +kernel, by decide +kernel, by decide +kernel⟩, Nat.le_of_ble_eq_true rfl⟩
theorem cv_RX1_32 : qa_cv RX1 32 (yX1_sortNotes, cX1_sortNotes, 7, none) 1 := ⟨tb_1094, tb_1096, tb_30, tb_127, tb_1097, ⟨by decide +kernel, by decide +kernel, by decide +kernel⟩, Nat.le_of_ble_eq_true rfl⟩
theorem cv_RX1_36 : qa_cs RX1 36 (yJ7_fill_53178, cJ7_fill_53178, 4, none) 2 := ⟨tb_1098, tb_911, tb_139, tb_912, ⟨by decide +kernel, by decide +kernel, by decide +kernel⟩, Nat.le_of_ble_eq_true rfl⟩
theorem cv_RX1_42 : qa_cv RX1 42 (yX7_start, cX7_start, 4, none) 1 := ⟨tb_1102, tb_989, tb_990, tb_125, tb_991, ⟨by decide +kernel, by decide +kernel, by decide +kernel⟩, Nat.le_of_ble_eq_true rfl⟩
theorem cv_RX1_48 : qa_cv RX1 48 (yX7_lastSort, cX7_lastSort, 1, (some .int)) 0 := ⟨tb_1103, tb_1044, tb_1045, tb_125, tb_1046, ⟨by decide +kernel, by decide +kernel, by decide +kernel⟩, Nat.le_of_ble_eq_true rfl⟩
theorem cv_RX1_52 : qa_cv RX1 52 (yX1_groupSquares, cX1_groupSquares, 5, none) 1 := ⟨tb_1104, tb_1106, tb_31, tb_127, tb_1107, ⟨by decide +kernel, by decide +kernel, by decide +kernel⟩, Nat.le_of_ble_eq_true rfl⟩
theorem cv_RX1_56 : qa_cv RX1 56 (yX7_step, cX7_step, 6, (some .boolean)) 0 := ⟨tb_1110, tb_1027, tb_1028, tb_125, tb_1029, ⟨by decide +kernel, by decide +kernel, by decide +kernel⟩, Nat.le_of_ble_eq_true rfl⟩
theorem cv_RX1_60 : qa_cv RX1 60 (yX1_countLayings, cX1_countLayings, 9, none) 1 := ⟨tb_1111, tb_1113, tb_32, tb_127, tb_1114, ⟨by decide +kernel, by decide +kernel, by decide +kernel⟩, Nat.le_of_ble_eq_true rfl⟩
theorem cv_RX1_64 : qa_cv RX1 64 (yX1_addSupersets, cX1_addSupersets, 3, none) 0 := ⟨tb_1132, tb_1134, tb_34, tb_127, tb_1135, ⟨by decide +kernel, by decide +kernel, by decide +kernel⟩, Nat.le_of_ble_eq_true rfl⟩
theorem cv_RX1_72 : qa_cv RX1 72 (yX8_sure, cX8_sure, 2, (some .int)) 1 := ⟨tb_1099, tb_1003, tb_1004, tb_121, tb_1005, ⟨by decide +kernel, by decide +kernel, by decide +kernel⟩, Nat.le_of_ble_eq_true rfl⟩
theorem cv_RX1_76 : qa_cv RX1 76 (yX8_region, cX8_region, 3, (some .long)) 1 := ⟨tb_1100, tb_1007, tb_1008, tb_121, tb_1009, ⟨by decide +kernel, by decide +kernel, by decide +kernel⟩, Nat.le_of_ble_eq_true rfl⟩
theorem cv_RX1_80 : qa_cv RX1 80 (yX8_sort, cX8_sort, 2, (some .int)) 1 := ⟨tb_1101, tb_998, tb_999, tb_121, tb_1000, ⟨by decide +kernel, by decide +kernel, by decide +kernel⟩, Nat.le_of_ble_eq_true rfl⟩
theorem cv_RX1_88 : qa_cv RX1 88 (yX7_placed, cX7_placed, 1, (some .int)) 0 := ⟨tb_1115, tb_1116, tb_1117, tb_125, tb_1118, ⟨by decide +kernel, by decide +kernel, by decide +kernel⟩, Nat.le_of_ble_eq_true rfl⟩
theorem cv_RX1_91 : qa_cv RX1 91 (yX7_placedSort, cX7_placedSort, 2, (some .int)) 1 := ⟨tb_1119, tb_1120, tb_1121, tb_125, tb_1122, ⟨by decide +kernel, by decide +kernel, by decide +kernel⟩, Nat.le_of_ble_eq_true rfl⟩
theorem cv_RX1_94 : qa_cv RX1 94 (yX7_placedAt, cX7_placedAt, 2, (some .int)) 1 := ⟨tb_1123, tb_1124, tb_1125, tb_125, tb_1126, ⟨by decide +kernel, by decide +kernel, by decide +kernel⟩, Nat.le_of_ble_eq_true rfl⟩
theorem cv_RX1_97 : qa_cv RX1 97 (yX1_fitting, cX1_fitting, 5, (some .int)) 4 := ⟨tb_1127, tb_1129, tb_33, tb_127, tb_1130, ⟨by decide +kernel, by decide +kernel, by decide +kernel⟩, Nat.le_of_ble_eq_true rfl⟩
theorem cv_RX1_105 : qa_cs RX1 105 (yJ13_bitCount_95d88, cJ13_bitCount_95d88, 2, (some .int)) 1 := ⟨tb_1131, tb_894, tb_138, tb_895, ⟨by decide +kernel, by decide +kernel, by decide +kernel⟩, Nat.le_of_ble_eq_true rfl⟩
theorem cv_RX1_111 : qa_cs RX1 111 (yX1_isFewer, cX1_isFewer, 2, (some .boolean)) 2 := ⟨tb_1140, tb_1141, tb_127, tb_1142, ⟨by decide +kernel, by decide +kernel, by decide +kernel⟩, Nat.le_of_ble_eq_true rfl⟩
theorem cv_RX1_115 : qa_cs RX1 115 (yX1_without, cX1_without, 5, (some .int)) 3 := ⟨tb_1165, tb_1166, tb_127, tb_1167, ⟨by decide +kernel, by decide +kernel, by decide +kernel⟩, Nat.le_of_ble_eq_true rfl⟩
theorem cv_RX1_119 : qa_cv RX1 119 (yX8_surveyor, cX8_surveyor, 2, (some .int)) 1 := ⟨tb_1168, tb_1169, tb_1170, tb_121, tb_1171, ⟨by decide +kernel, by decide +kernel, by decide +kernel⟩, Nat.le_of_ble_eq_true rfl⟩
theorem cv_RX1_122 : qa_cs RX1 122 (yJ6_bitCount_0f7a4, cJ6_bitCount_0f7a4, 1, (some .int)) 1 := ⟨tb_1143, tb_1144, tb_140, tb_1145, ⟨by decide +kernel, by decide +kernel, by decide +kernel⟩, Nat.le_of_ble_eq_true rfl⟩
theorem cv_RX2_11 : qa_cs RX2 11 (yX2_bit, cX2_bit, 2, (some .long)) 2 := ⟨tb_724, tb_725, tb_126, tb_726, ⟨by decide +kernel, by decide +kernel, by decide +kernel⟩, Nat.le_of_ble_eq_true rfl⟩
theorem cv_RX2_21 : qa_cs RX2 21 (yJ13_bitCount_95d88, cJ13_bitCount_95d88, 2, (some .int)) 1 := ⟨tb_1033, tb_894, tb_138, tb_895, ⟨by decide +kernel, by decide +kernel, by decide +kernel⟩, Nat.le_of_ble_eq_true rfl⟩
theorem cv_RX3_60 : qa_cn RX3 60 (yX11_within, cX11_within, 2, (some .boolean)) 2 "MapsOfNothing" := ⟨List.mem_of_getElem? (i := 8) rfl, tb_864, tb_119, tb_865, ⟨by decide +kernel, by decide +kernel, by decide +kernel⟩, Nat.le_of_ble_eq_true rfl⟩
theorem cv_RX3_66 : qa_cs RX3 66 (yX2_box, cX2_box, 8, (some .long)) 4 := ⟨tb_748, tb_722, tb_126, tb_723, ⟨by decide +kernel, by decide +kernel, by decide +kernel⟩, Nat.le_of_ble_eq_true rfl⟩
theorem cv_RX3_72 : qa_cv RX3 72 (yX3_view, cX3_view, 6, (some .long)) 2 := ⟨tb_750, tb_751, tb_752, tb_122, tb_753, ⟨by decide +kernel, by decide +kernel, by decide +kernel⟩, Nat.le_of_ble_eq_true rfl⟩
theorem cv_RX3_76 : qa_cv RX3 76 (yX3_isClear, cX3_isClear, 10, (some .boolean)) 3 := ⟨tb_754, tb_756, tb_9, tb_122, tb_757, ⟨by decide +kernel, by decide +kernel, by decide +kernel⟩, Nat.le_of_ble_eq_true rfl⟩
theorem cv_RX3_90 : qa_cs RX3 90 (yJ9_floorDiv_7cf53, cJ9_floorDiv_7cf53, 3, (some .int)) 2 := ⟨tb_764, tb_765, tb_136, tb_766, ⟨by decide +kernel, by decide +kernel, by decide +kernel⟩, Nat.le_of_ble_eq_true rfl⟩
theorem cv_RX3_93 : qa_cs RX3 93 (yX2_bit, cX2_bit, 2, (some .long)) 2 := ⟨tb_767, tb_725, tb_126, tb_726, ⟨by decide +kernel, by decide +kernel, by decide +kernel⟩, Nat.le_of_ble_eq_true rfl⟩
theorem cv_RX3_96 : qa_cs RX3 96 (yX2_grow, cX2_grow, 4, (some .long)) 1 := ⟨tb_892, tb_354, tb_126, tb_355, ⟨by decide +kernel, by decide +kernel, by decide +kernel⟩, Nat.le_of_ble_eq_true rfl⟩
theorem cv_RX3_100 : qa_cs RX3 100 (yJ13_bitCount_95d88, cJ13_bitCount_95d88, 2, (some .int)) 1 := ⟨tb_893, tb_894, tb_138, tb_895, ⟨by decide +kernel, by decide +kernel, by decide +kernel⟩, Nat.le_of_ble_eq_true rfl⟩
theorem cv_RX4_19 : qa_cv RX4 19 (yX3_clear, cX3_clear, 1, none) 0 := ⟨tb_619, tb_620, tb_621, tb_122, tb_622, ⟨by decide +kernel, by decide +kernel, by decide +kernel⟩, Nat.le_of_ble_eq_true rfl⟩
theorem cv_RX4_24 : qa_cv RX4 24 (yX9_begin, cX9_begin, 1, none) 0 := ⟨tb_623, tb_624, tb_625, tb_120, tb_626, ⟨by decide +kernel, by decide +kernel, by decide +kernel⟩, Nat.le_of_ble_eq_true rfl⟩
theorem cv_RX4_29 : qa_cv RX4 29 (yX4_readClause, cX4_readClause, 4, (some .boolean)) 1 := ⟨tb_631, tb_633, tb_0, tb_123, tb_634, ⟨by decide +kernel, by decide +kernel, by decide +kernel⟩, Nat.le_of_ble_eq_true rfl⟩
theorem cv_RX4_40 : qa_cv RX4 40 (yX3_settle, cX3_settle, 2, none) 0 := ⟨tb_744, tb_745, tb_746, tb_122, tb_747, ⟨by decide +kernel, by decide +kernel, by decide +kernel⟩, Nat.le_of_ble_eq_true rfl⟩
theorem cv_RX4_43 : qa_cv RX4 43 (yX9_isSign, cX9_isSign, 2, (some .boolean)) 1 := ⟨tb_768, tb_769, tb_770, tb_120, tb_771, ⟨by decide +kernel, by decide +kernel, by decide +kernel⟩, Nat.le_of_ble_eq_true rfl⟩
theorem cv_RX4_46 : qa_cv RX4 46 (yX9_fail, cX9_fail, 2, (some .boolean)) 1 := ⟨tb_688, tb_689, tb_690, tb_120, tb_691, ⟨by decide +kernel, by decide +kernel, by decide +kernel⟩, Nat.le_of_ble_eq_true rfl⟩
theorem cv_RX4_49 : qa_cv RX4 49 (yX9_scan, cX9_scan, 1, none) 0 := ⟨tb_700, tb_628, tb_629, tb_120, tb_630, ⟨by decide +kernel, by decide +kernel, by decide +kernel⟩, Nat.le_of_ble_eq_true rfl⟩
theorem cv_RX4_54 : qa_cv RX4 54 (yX9_among, cX9_among, 5, (some .int)) 1 := ⟨tb_636, tb_637, tb_638, tb_120, tb_639, ⟨by decide +kernel, by decide +kernel, by decide +kernel⟩, Nat.le_of_ble_eq_true rfl⟩
theorem cv_RX4_58 : qa_cv RX4 58 (yX4_isFull, cX4_isFull, 2, (some .boolean)) 1 := ⟨tb_696, tb_698, tb_1, tb_123, tb_699, ⟨by decide +kernel, by decide +kernel, by decide +kernel⟩, Nat.le_of_ble_eq_true rfl⟩
theorem cv_RX4_61 : qa_cv RX4 61 (yX4_readWide, cX4_readWide, 1, (some .boolean)) 0 := ⟨tb_701, tb_703, tb_2, tb_123, tb_704, ⟨by decide +kernel, by decide +kernel, by decide +kernel⟩, Nat.le_of_ble_eq_true rfl⟩
theorem cv_RX4_65 : qa_cv RX4 65 (yX4_readWood, cX4_readWood, 1, (some .boolean)) 0 := ⟨tb_709, tb_711, tb_3, tb_123, tb_712, ⟨by decide +kernel, by decide +kernel, by decide +kernel⟩, Nat.le_of_ble_eq_true rfl⟩
theorem cv_RX4_68 : qa_cv RX4 68 (yX4_readHill, cX4_readHill, 2, (some .boolean)) 0 := ⟨tb_727, tb_729, tb_6, tb_123, tb_730, ⟨by decide +kernel, by decide +kernel, by decide +kernel⟩, Nat.le_of_ble_eq_true rfl⟩
theorem cv_RX4_71 : qa_cv RX4 71 (yX4_readRoad, cX4_readRoad, 2, (some .boolean)) 0 := ⟨tb_736, tb_738, tb_7, tb_123, tb_739, ⟨by decide +kernel, by decide +kernel, by decide +kernel⟩, Nat.le_of_ble_eq_true rfl⟩
theorem cv_RX4_74 : qa_cv RX4 74 (yX4_readSort, cX4_readSort, 2, (some .boolean)) 0 := ⟨tb_740, tb_742, tb_8, tb_123, tb_743, ⟨by decide +kernel, by decide +kernel, by decide +kernel⟩, Nat.le_of_ble_eq_true rfl⟩
theorem cv_RX4_86 : qa_cv RX4 86 (yX9_takeNumber, cX9_takeNumber, 3, (some .boolean)) 2 := ⟨tb_705, tb_706, tb_707, tb_120, tb_708, ⟨by decide +kernel, by decide +kernel, by decide +kernel⟩, Nat.le_of_ble_eq_true rfl⟩
theorem cv_RX4_105 : qa_cv RX4 105 (yX4_readSquare, cX4_readSquare, 1, (some .boolean)) 0 := ⟨tb_717, tb_719, tb_5, tb_123, tb_720, ⟨by decide +kernel, by decide +kernel, by decide +kernel⟩, Nat.le_of_ble_eq_true rfl⟩
theorem cv_RX4_114 : qa_cv RX4 114 (yX4_readBox, cX4_readBox, 1, (some .boolean)) 0 := ⟨tb_713, tb_715, tb_4, tb_123, tb_716, ⟨by decide +kernel, by decide +kernel, by decide +kernel⟩, Nat.le_of_ble_eq_true rfl⟩
theorem cv_RX4_121 : qa_cs RX4 121 (yX2_box, cX2_box, 8, (some .long)) 4 := ⟨tb_721, tb_722, tb_126, tb_723, ⟨by decide +kernel, by decide +kernel, by decide +kernel⟩, Nat.le_of_ble_eq_true rfl⟩
theorem cv_RX4_130 : qa_cv RX4 130 (yX3_hillOn, cX3_hillOn, 3, (some .int)) 1 := ⟨tb_731, tb_732, tb_733, tb_122, tb_734, ⟨by decide +kernel, by decide +kernel, by decide +kernel⟩, Nat.le_of_ble_eq_true rfl⟩
theorem cv_RX4_134 : qa_cv RX4 134 (yX9_failAt, cX9_failAt, 3, (some .boolean)) 2 := ⟨tb_735, tb_693, tb_694, tb_120, tb_695, ⟨by decide +kernel, by decide +kernel, by decide +kernel⟩, Nat.le_of_ble_eq_true rfl⟩
theorem cv_RX5_55 : qa_cv RX5 55 (yX5_learn, cX5_learn, 3, none) 2 := ⟨tb_917, tb_919, tb_21, tb_130, tb_920, ⟨by decide +kernel, by decide +kernel, by decide +kernel⟩, Nat.le_of_ble_eq_true rfl⟩
theorem cv_RX5_59 : qa_cv RX5 59 (yX5_isTrue, cX5_isTrue, 6, (some .boolean)) 2 := ⟨tb_932, tb_934, tb_22, tb_130, tb_935, ⟨by decide +kernel, by decide +kernel, by decide +kernel⟩, Nat.le_of_ble_eq_true rfl⟩
theorem cv_RX5_63 : qa_cv RX5 63 (yX3_woodsBeside, cX3_woodsBeside, 4, (some .int)) 1 := ⟨tb_921, tb_889, tb_890, tb_122, tb_891, ⟨by decide +kernel, by decide +kernel, by decide +kernel⟩, Nat.le_of_ble_eq_true rfl⟩
theorem cv_RX5_67 : qa_cv RX5 67 (yX3_hillsThatSee, cX3_hillsThatSee, 4, (some .int)) 1 := ⟨tb_922, tb_881, tb_882, tb_122, tb_883, ⟨by decide +kernel, by decide +kernel, by decide +kernel⟩, Nat.le_of_ble_eq_true rfl⟩
theorem cv_RX5_70 : qa_cv RX5 70 (yX3_hillOn, cX3_hillOn, 3, (some .int)) 1 := ⟨tb_923, tb_732, tb_733, tb_122, tb_734, ⟨by decide +kernel, by decide +kernel, by decide +kernel⟩, Nat.le_of_ble_eq_true rfl⟩
theorem cv_RX5_73 : qa_cv RX5 73 (yX3_roadsOf, cX3_roadsOf, 4, (some .int)) 1 := ⟨tb_924, tb_885, tb_886, tb_122, tb_887, ⟨by decide +kernel, by decide +kernel, by decide +kernel⟩, Nat.le_of_ble_eq_true rfl⟩
theorem cv_RX5_76 : qa_cv RX5 76 (yX3_toEdge, cX3_toEdge, 4, (some .int)) 1 := ⟨tb_925, tb_926, tb_927, tb_122, tb_928, ⟨by decide +kernel, by decide +kernel, by decide +kernel⟩, Nat.le_of_ble_eq_true rfl⟩
theorem cv_RX5_79 : qa_cs RX5 79 (yX5_join, cX5_join, 5, (some .long)) 3 := ⟨tb_936, tb_937, tb_130, tb_938, ⟨by decide +kernel, by decide +kernel, by decide +kernel⟩, Nat.le_of_ble_eq_true rfl⟩
theorem cv_RX5_83 : qa_cs RX5 83 (yX5_compare, cX5_compare, 5, (some .boolean)) 3 := ⟨tb_939, tb_940, tb_130, tb_941, ⟨by decide +kernel, by decide +kernel, by decide +kernel⟩, Nat.le_of_ble_eq_true rfl⟩
theorem cv_RX6_19 : qa_cv RX6 19 (yX5_clear, cX5_clear, 1, none) 0 := ⟨tb_788, tb_789, tb_790, tb_130, tb_791, ⟨by decide +kernel, by decide +kernel, by decide +kernel⟩, Nat.le_of_ble_eq_true rfl⟩
theorem cv_RX6_28 : qa_cv RX6 28 (yX9_begin, cX9_begin, 1, none) 0 := ⟨tb_792, tb_624, tb_625, tb_120, tb_626, ⟨by decide +kernel, by decide +kernel, by decide +kernel⟩, Nat.le_of_ble_eq_true rfl⟩
theorem cv_RX6_35 : qa_cv RX6 35 (yX9_among, cX9_among, 5, (some .int)) 1 := ⟨tb_794, tb_637, tb_638, tb_120, tb_639, ⟨by decide +kernel, by decide +kernel, by decide +kernel⟩, Nat.le_of_ble_eq_true rfl⟩
theorem cv_RX6_39 : qa_cv RX6 39 (yX9_fail, cX9_fail, 2, (some .boolean)) 1 := ⟨tb_795, tb_689, tb_690, tb_120, tb_691, ⟨by decide +kernel, by decide +kernel, by decide +kernel⟩, Nat.le_of_ble_eq_true rfl⟩
theorem cv_RX6_46 : qa_cv RX6 46 (yX9_scan, cX9_scan, 1, none) 0 := ⟨tb_796, tb_628, tb_629, tb_120, tb_630, ⟨by decide +kernel, by decide +kernel, by decide +kernel⟩, Nat.le_of_ble_eq_true rfl⟩
theorem cv_RX6_49 : qa_cv RX6 49 (yX6_readApart, cX6_readApart, 3, (some .boolean)) 0 := ⟨tb_797, tb_799, tb_10, tb_124, tb_800, ⟨by decide +kernel, by decide +kernel, by decide +kernel⟩, Nat.le_of_ble_eq_true rfl⟩
theorem cv_RX6_53 : qa_cv RX6 53 (yX6_readBarred, cX6_readBarred, 1, (some .boolean)) 0 := ⟨tb_806, tb_808, tb_11, tb_124, tb_809, ⟨by decide +kernel, by decide +kernel, by decide +kernel⟩, Nat.le_of_ble_eq_true rfl⟩
theorem cv_RX6_56 : qa_cv RX6 56 (yX6_readTest, cX6_readTest, 5, (some .boolean)) 1 := ⟨tb_814, tb_816, tb_12, tb_124, tb_817, ⟨by decide +kernel, by decide +kernel, by decide +kernel⟩, Nat.le_of_ble_eq_true rfl⟩
theorem cv_RX6_62 : qa_cv RX6 62 (yX9_isSign, cX9_isSign, 2, (some .boolean)) 1 := ⟨tb_823, tb_769, tb_770, tb_120, tb_771, ⟨by decide +kernel, by decide +kernel, by decide +kernel⟩, Nat.le_of_ble_eq_true rfl⟩
theorem cv_RX6_65 : qa_cv RX6 65 (yX9_takeNumber, cX9_takeNumber, 3, (some .boolean)) 2 := ⟨tb_801, tb_706, tb_707, tb_120, tb_708, ⟨by decide +kernel, by decide +kernel, by decide +kernel⟩, Nat.le_of_ble_eq_true rfl⟩
theorem cv_RX6_72 : qa_cv RX6 72 (yX5_addApart, cX5_addApart, 4, none) 3 := ⟨tb_802, tb_803, tb_804, tb_130, tb_805, ⟨by decide +kernel, by decide +kernel, by decide +kernel⟩, Nat.le_of_ble_eq_true rfl⟩
theorem cv_RX6_76 : qa_cv RX6 76 (yX5_beginBar, cX5_beginBar, 2, none) 1 := ⟨tb_810, tb_811, tb_812, tb_130, tb_813, ⟨by decide +kernel, by decide +kernel, by decide +kernel⟩, Nat.le_of_ble_eq_true rfl⟩
theorem cv_RX6_80 : qa_cv RX6 80 (yX6_readFact, cX6_readFact, 3, (some .boolean)) 1 := ⟨tb_818, tb_820, tb_13, tb_124, tb_821, ⟨by decide +kernel, by decide +kernel, by decide +kernel⟩, Nat.le_of_ble_eq_true rfl⟩
theorem cv_RX6_85 : qa_cv RX6 85 (yX5_emit, cX5_emit, 2, none) 1 := ⟨tb_838, tb_839, tb_840, tb_130, tb_841, ⟨by decide +kernel, by decide +kernel, by decide +kernel⟩, Nat.le_of_ble_eq_true rfl⟩
theorem cv_RX6_90 : qa_cv RX6 90 (yX6_readSum, cX6_readSum, 5, (some .boolean)) 0 := ⟨tb_824, tb_826, tb_14, tb_124, tb_827, ⟨by decide +kernel, by decide +kernel, by decide +kernel⟩, Nat.le_of_ble_eq_true rfl⟩
theorem cv_RX6_93 : qa_cv RX6 93 (yX6_readComparison, cX6_readComparison, 2, (some .boolean)) 0 := ⟨tb_846, tb_848, tb_18, tb_124, tb_849, ⟨by decide +kernel, by decide +kernel, by decide +kernel⟩, Nat.le_of_ble_eq_true rfl⟩
theorem cv_RX6_96 : qa_cv RX6 96 (yX6_endComparison, cX6_endComparison, 1, (some .boolean)) 0 := ⟨tb_850, tb_852, tb_19, tb_124, tb_853, ⟨by decide +kernel, by decide +kernel, by decide +kernel⟩, Nat.le_of_ble_eq_true rfl⟩
theorem cv_RX6_99 : qa_cv RX6 99 (yX6_signCode, cX6_signCode, 1, (some .int)) 0 := ⟨tb_842, tb_844, tb_17, tb_124, tb_845, ⟨by decide +kernel, by decide +kernel, by decide +kernel⟩, Nat.le_of_ble_eq_true rfl⟩
theorem cv_RX6_103 : qa_cv RX6 103 (yX6_isRoomForPart, cX6_isRoomForPart, 1, (some .boolean)) 0 := ⟨tb_833, tb_835, tb_16, tb_124, tb_836, ⟨by decide +kernel, by decide +kernel, by decide +kernel⟩, Nat.le_of_ble_eq_true rfl⟩
theorem cv_RX6_109 : qa_cv RX6 109 (yX6_readValue, cX6_readValue, 2, (some .boolean)) 0 := ⟨tb_828, tb_830, tb_15, tb_124, tb_831, ⟨by decide +kernel, by decide +kernel, by decide +kernel⟩, Nat.le_of_ble_eq_true rfl⟩
theorem cv_RX6_120 : qa_cv RX6 120 (yX9_failAt, cX9_failAt, 3, (some .boolean)) 2 := ⟨tb_837, tb_693, tb_694, tb_120, tb_695, ⟨by decide +kernel, by decide +kernel, by decide +kernel⟩, Nat.le_of_ble_eq_true rfl⟩
theorem cv_RX7_74 : qa_cs RX7 74 (yJ7_fill_d0a16, cJ7_fill_d0a16, 5, none) 2 := ⟨tb_907, tb_908, tb_139, tb_909, ⟨by decide +kernel, by decide +kernel, by decide +kernel⟩, Nat.le_of_ble_eq_true rfl⟩
theorem cv_RX7_80 : qa_cs RX7 80 (yJ7_fill_53178, cJ7_fill_53178, 4, none) 2 := ⟨tb_910, tb_911, tb_139, tb_912, ⟨by decide +kernel, by decide +kernel, by decide +kernel⟩, Nat.le_of_ble_eq_true rfl⟩
theorem cv_RX7_83 : qa_cv RX7 83 (yX5_barSquares, cX5_barSquares, 5, none) 2 := ⟨tb_913, tb_914, tb_915, tb_130, tb_916, ⟨by decide +kernel, by decide +kernel, by decide +kernel⟩, Nat.le_of_ble_eq_true rfl⟩
theorem cv_RX7_101 : qa_cv RX7 101 (yX7_keepApart, cX7_keepApart, 5, none) 3 := ⟨tb_942, tb_944, tb_23, tb_125, tb_945, ⟨by decide +kernel, by decide +kernel, by decide +kernel⟩, Nat.le_of_ble_eq_true rfl⟩
theorem cv_RX7_121 : qa_cv RX7 121 (yX3_open, cX3_open, 1, (some .long)) 0 := ⟨tb_992, tb_993, tb_994, tb_122, tb_995, ⟨by decide +kernel, by decide +kernel, by decide +kernel⟩, Nat.le_of_ble_eq_true rfl⟩
theorem cv_RX7_130 : qa_cv RX7 130 (yX8_sort, cX8_sort, 2, (some .int)) 1 := ⟨tb_997, tb_998, tb_999, tb_121, tb_1000, ⟨by decide +kernel, by decide +kernel, by decide +kernel⟩, Nat.le_of_ble_eq_true rfl⟩
theorem cv_RX7_133 : qa_cv RX7 133 (yX8_sure, cX8_sure, 2, (some .int)) 1 := ⟨tb_1002, tb_1003, tb_1004, tb_121, tb_1005, ⟨by decide +kernel, by decide +kernel, by decide +kernel⟩, Nat.le_of_ble_eq_true rfl⟩
theorem cv_RX7_135 : qa_cv RX7 135 (yX8_region, cX8_region, 3, (some .long)) 1 := ⟨tb_1006, tb_1007, tb_1008, tb_121, tb_1009, ⟨by decide +kernel, by decide +kernel, by decide +kernel⟩, Nat.le_of_ble_eq_true rfl⟩
theorem cv_RX7_138 : qa_cv RX7 138 (yX7_heed, cX7_heed, 6, none) 3 := ⟨tb_1010, tb_1012, tb_26, tb_125, tb_1013, ⟨by decide +kernel, by decide +kernel, by decide +kernel⟩, Nat.le_of_ble_eq_true rfl⟩
theorem cv_RX7_144 : qa_cv RX7 144 (yX7_room, cX7_room, 8, (some .long)) 1 := ⟨tb_1015, tb_1017, tb_27, tb_125, tb_1018, ⟨by decide +kernel, by decide +kernel, by decide +kernel⟩, Nat.le_of_ble_eq_true rfl⟩
theorem cv_RX7_152 : qa_cs RX7 152 (yX2_lowest, cX2_lowest, 2, (some .int)) 1 := ⟨tb_1030, tb_1031, tb_126, tb_1032, ⟨by decide +kernel, by decide +kernel, by decide +kernel⟩, Nat.le_of_ble_eq_true rfl⟩
theorem cv_RX7_158 : qa_cv RX7 158 (yX7_roomByNotes, cX7_roomByNotes, 12, (some .long)) 3 := ⟨tb_1020, tb_1022, tb_28, tb_125, tb_1023, ⟨by decide +kernel, by decide +kernel, by decide +kernel⟩, Nat.le_of_ble_eq_true rfl⟩
theorem cv_RX7_162 : qa_cs RX7 162 (yJ13_bitCount_95d88, cJ13_bitCount_95d88, 2, (some .int)) 1 := ⟨tb_1024, tb_894, tb_138, tb_895, ⟨by decide +kernel, by decide +kernel, by decide +kernel⟩, Nat.le_of_ble_eq_true rfl⟩
theorem cv_RX7_167 : qa_cv RX7 167 (yX7_start, cX7_start, 4, none) 1 := ⟨tb_988, tb_989, tb_990, tb_125, tb_991, ⟨by decide +kernel, by decide +kernel, by decide +kernel⟩, Nat.le_of_ble_eq_true rfl⟩
theorem cv_RX7_171 : qa_cv RX7 171 (yX7_step, cX7_step, 6, (some .boolean)) 0 := ⟨tb_1026, tb_1027, tb_1028, tb_125, tb_1029, ⟨by decide +kernel, by decide +kernel, by decide +kernel⟩, Nat.le_of_ble_eq_true rfl⟩
theorem cv_RX7_175 : qa_cv RX7 175 (yX7_lastSort, cX7_lastSort, 1, (some .int)) 0 := ⟨tb_1043, tb_1044, tb_1045, tb_125, tb_1046, ⟨by decide +kernel, by decide +kernel, by decide +kernel⟩, Nat.le_of_ble_eq_true rfl⟩
theorem cv_RX7_179 : qa_cs RX7 179 (yX7_nth, cX7_nth, 6, (some .int)) 2 := ⟨tb_1062, tb_1063, tb_125, tb_1064, ⟨by decide +kernel, by decide +kernel, by decide +kernel⟩, Nat.le_of_ble_eq_true rfl⟩
theorem cv_RX8_26 : qa_cv RX8 26 (yX3_copy, cX3_copy, 2, none) 1 := ⟨tb_1324, tb_773, tb_774, tb_122, tb_775, ⟨by decide +kernel, by decide +kernel, by decide +kernel⟩, Nat.le_of_ble_eq_true rfl⟩
theorem cv_RX8_42 : qa_cv RX8 42 (yX8_fact, cX8_fact, 3, (some .int)) 2 := ⟨tb_1001, tb_969, tb_970, tb_121, tb_971, ⟨by decide +kernel, by decide +kernel, by decide +kernel⟩, Nat.le_of_ble_eq_true rfl⟩
theorem cv_RX9_25 : qa_cv RX9 25 (yX9_scan, cX9_scan, 1, none) 0 := ⟨tb_627, tb_628, tb_629, tb_120, tb_630, ⟨by decide +kernel, by decide +kernel, by decide +kernel⟩, Nat.le_of_ble_eq_true rfl⟩
theorem cv_RX9_46 : qa_cv RX9 46 (yX9_failAt, cX9_failAt, 3, (some .boolean)) 2 := ⟨tb_692, tb_693, tb_694, tb_120, tb_695, ⟨by decide +kernel, by decide +kernel, by decide +kernel⟩, Nat.le_of_ble_eq_true rfl⟩
theorem cv_RX10_24 : qa_cv RX10 24 (yX10_spread, cX10_spread, 8, none) 2 := ⟨tb_1283, tb_1285, tb_44, tb_129, tb_1286, ⟨by decide +kernel, by decide +kernel, by decide +kernel⟩, Nat.le_of_ble_eq_true rfl⟩
theorem cv_RX10_29 : qa_cs RX10 29 (yJ7_fill_53178, cJ7_fill_53178, 4, none) 2 := ⟨tb_1290, tb_911, tb_139, tb_912, ⟨by decide +kernel, by decide +kernel, by decide +kernel⟩, Nat.le_of_ble_eq_true rfl⟩
theorem cv_RX10_35 : qa_cv RX10 35 (yX10_goOn, cX10_goOn, 8, none) 4 := ⟨tb_1291, tb_1293, tb_45, tb_129, tb_1294, ⟨by decide +kernel, by decide +kernel, by decide +kernel⟩, Nat.le_of_ble_eq_true rfl⟩
theorem cv_RX10_48 : qa_cs RX10 48 (yX2_grow, cX2_grow, 4, (some .long)) 1 := ⟨tb_1288, tb_354, tb_126, tb_355, ⟨by decide +kernel, by decide +kernel, by decide +kernel⟩, Nat.le_of_ble_eq_true rfl⟩
theorem cv_RX10_54 : qa_cv RX10 54 (yX3_open, cX3_open, 1, (some .long)) 0 := ⟨tb_1289, tb_993, tb_994, tb_122, tb_995, ⟨by decide +kernel, by decide +kernel, by decide +kernel⟩, Nat.le_of_ble_eq_true rfl⟩
theorem cv_RX12_161 : qa_cs RX12 161 (yX12_in, cX12_in, 6, (some .boolean)) 3 := ⟨tb_1536, tb_1537, tb_131, tb_1538, ⟨by decide +kernel, by decide +kernel, by decide +kernel⟩, Nat.le_of_ble_eq_true rfl⟩
theorem cv_RX12_165 : qa_cv RX12 165 (yX12_isSquare, cX12_isSquare, 3, (some .boolean)) 2 := ⟨tb_1547, tb_1549, tb_49, tb_131, tb_1550, ⟨by decide +kernel, by decide +kernel, by decide +kernel⟩, Nat.le_of_ble_eq_true rfl⟩
theorem cv_RX12_169 : qa_cv RX12 169 (yX12_hillOn, cX12_hillOn, 3, (some .int)) 1 := ⟨tb_1568, tb_1570, tb_52, tb_131, tb_1571, ⟨by decide +kernel, by decide +kernel, by decide +kernel⟩, Nat.le_of_ble_eq_true rfl⟩
theorem cv_RX12_173 : qa_cs RX12 173 (yX12_without, cX12_without, 1, (some .int)) 1 := ⟨tb_1558, tb_1559, tb_131, tb_1560, ⟨by decide +kernel, by decide +kernel, by decide +kernel⟩, Nat.le_of_ble_eq_true rfl⟩
theorem cv_RX12_176 : qa_cs RX12 176 (yX12_apartOf, cX12_apartOf, 4, (some .int)) 2 := ⟨tb_1555, tb_1556, tb_131, tb_1557, ⟨by decide +kernel, by decide +kernel, by decide +kernel⟩, Nat.le_of_ble_eq_true rfl⟩
theorem cv_RX12_180 : qa_cs RX12 180 (yX12_floor, cX12_floor, 2, (some .int)) 2 := ⟨tb_1561, tb_1562, tb_131, tb_1563, ⟨by decide +kernel, by decide +kernel, by decide +kernel⟩, Nat.le_of_ble_eq_true rfl⟩
theorem cv_RX12_183 : qa_cv RX12 183 (yX12_isWood, cX12_isWood, 2, (some .boolean)) 1 := ⟨tb_1564, tb_1566, tb_51, tb_131, tb_1567, ⟨by decide +kernel, by decide +kernel, by decide +kernel⟩, Nat.le_of_ble_eq_true rfl⟩
theorem cv_RX12_187 : qa_cv RX12 187 (yX12_isThere, cX12_isThere, 2, (some .boolean)) 1 := ⟨tb_1543, tb_1545, tb_48, tb_131, tb_1546, ⟨by decide +kernel, by decide +kernel, by decide +kernel⟩, Nat.le_of_ble_eq_true rfl⟩
theorem cv_RX12_190 : qa_cv RX12 190 (yX12_isSeen, cX12_isSeen, 11, (some .boolean)) 3 := ⟨tb_1551, tb_1553, tb_50, tb_131, tb_1554, ⟨by decide +kernel, by decide +kernel, by decide +kernel⟩, Nat.le_of_ble_eq_true rfl⟩
theorem cv_RX12_194 : qa_cv RX12 194 (yX12_isHill, cX12_isHill, 2, (some .boolean)) 1 := ⟨tb_1532, tb_1534, tb_46, tb_131, tb_1535, ⟨by decide +kernel, by decide +kernel, by decide +kernel⟩, Nat.le_of_ble_eq_true rfl⟩
theorem cv_RX12_197 : qa_cv RX12 197 (yX12_seenFrom, cX12_seenFrom, 6, (some .long)) 2 := ⟨tb_1539, tb_1541, tb_47, tb_131, tb_1542, ⟨by decide +kernel, by decide +kernel, by decide +kernel⟩, Nat.le_of_ble_eq_true rfl⟩
theorem cv_RX12_203 : qa_cv RX12 203 (yX12_isLand, cX12_isLand, 1, (some .boolean)) 0 := ⟨tb_1577, tb_1579, tb_53, tb_131, tb_1580, ⟨by decide +kernel, by decide +kernel, by decide +kernel⟩, Nat.le_of_ble_eq_true rfl⟩
theorem cv_RX12_207 : qa_cv RX12 207 (yX12_roadSet, cX12_roadSet, 6, (some .long)) 1 := ⟨tb_1771, tb_1773, tb_88, tb_131, tb_1774, ⟨by decide +kernel, by decide +kernel, by decide +kernel⟩, Nat.le_of_ble_eq_true rfl⟩
theorem cv_RX12_211 : qa_cs RX12 211 (yX12_has, cX12_has, 3, (some .boolean)) 2 := ⟨tb_1775, tb_1776, tb_131, tb_1777, ⟨by decide +kernel, by decide +kernel, by decide +kernel⟩, Nat.le_of_ble_eq_true rfl⟩
theorem cv_RX12_218 : qa_cv RX12 218 (yX12_put, cX12_put, 3, none) 1 := ⟨tb_1585, tb_1587, tb_54, tb_131, tb_1588, ⟨by decide +kernel, by decide +kernel, by decide +kernel⟩, Nat.le_of_ble_eq_true rfl⟩
theorem cv_RX12_246 : qa_cv RX12 246 (yX12_sign, cX12_sign, 1, (some .int)) 0 := ⟨tb_1609, tb_1611, tb_58, tb_131, tb_1612, ⟨by decide +kernel, by decide +kernel, by decide +kernel⟩, Nat.le_of_ble_eq_true rfl⟩
theorem cv_RX12_263 : qa_cv RX12 263 (yX12_blanks, cX12_blanks, 1, none) 0 := ⟨tb_1605, tb_1607, tb_57, tb_131, tb_1608, ⟨by decide +kernel, by decide +kernel, by decide +kernel⟩, Nat.le_of_ble_eq_true rfl⟩
theorem cv_RX12_266 : qa_cv RX12 266 (yX12_stood, cX12_stood, 5, (some .boolean)) 1 := ⟨tb_1621, tb_1623, tb_59, tb_131, tb_1624, ⟨by decide +kernel, by decide +kernel, by decide +kernel⟩, Nat.le_of_ble_eq_true rfl⟩
theorem cv_RX12_279 : qa_cv RX12 279 (yX12_fails, cX12_fails, 3, none) 2 := ⟨tb_1627, tb_1629, tb_60, tb_131, tb_1630, ⟨by decide +kernel, by decide +kernel, by decide +kernel⟩, Nat.le_of_ble_eq_true rfl⟩
theorem cv_RX12_283 : qa_cv RX12 283 (yX12_isDigit, cX12_isDigit, 1, (some .boolean)) 0 := ⟨tb_1644, tb_1646, tb_64, tb_131, tb_1647, ⟨by decide +kernel, by decide +kernel, by decide +kernel⟩, Nat.le_of_ble_eq_true rfl⟩
theorem cv_RX12_287 : qa_cv RX12 287 (yX12_digits, cX12_digits, 4, (some .int)) 1 := ⟨tb_1640, tb_1642, tb_63, tb_131, tb_1643, ⟨by decide +kernel, by decide +kernel, by decide +kernel⟩, Nat.le_of_ble_eq_true rfl⟩
theorem cv_RX12_290 : qa_cv RX12 290 (yX12_isCounted, cX12_isCounted, 2, none) 1 := ⟨tb_1724, tb_1726, tb_81, tb_131, tb_1727, ⟨by decide +kernel, by decide +kernel, by decide +kernel⟩, Nat.le_of_ble_eq_true rfl⟩
theorem cv_RX12_293 : qa_cv RX12 293 (yX12_entry, cX12_entry, 3, none) 2 := ⟨tb_1728, tb_1730, tb_82, tb_131, tb_1731, ⟨by decide +kernel, by decide +kernel, by decide +kernel⟩, Nat.le_of_ble_eq_true rfl⟩
theorem cv_RX12_296 : qa_cs RX12 296 (yX12_wordOf, cX12_wordOf, 1, (some (.object "java/lang/String"))) 1 := ⟨tb_1732, tb_1733, tb_131, tb_1734, ⟨by decide +kernel, by decide +kernel, by decide +kernel⟩, Nat.le_of_ble_eq_true rfl⟩
theorem cv_RX12_300 : qa_cv RX12 300 (yX12_value, cX12_value, 3, none) 0 := ⟨tb_1720, tb_1722, tb_80, tb_131, tb_1723, ⟨by decide +kernel, by decide +kernel, by decide +kernel⟩, Nat.le_of_ble_eq_true rfl⟩
theorem cv_RX12_303 : qa_cv RX12 303 (yX12_term, cX12_term, 2, none) 0 := ⟨tb_1716, tb_1718, tb_79, tb_131, tb_1719, ⟨by decide +kernel, by decide +kernel, by decide +kernel⟩, Nat.le_of_ble_eq_true rfl⟩
theorem cv_RX12_306 : qa_cv RX12 306 (yX12_sum, cX12_sum, 2, none) 0 := ⟨tb_1712, tb_1714, tb_78, tb_131, tb_1715, ⟨by decide +kernel, by decide +kernel, by decide +kernel⟩, Nat.le_of_ble_eq_true rfl⟩
theorem cv_RX12_315 : qa_cv RX12 315 (yX12_top, cX12_top, 1, (some .int)) 0 := ⟨tb_1744, tb_1746, tb_84, tb_131, tb_1747, ⟨by decide +kernel, by decide +kernel, by decide +kernel⟩, Nat.le_of_ble_eq_true rfl⟩
theorem cv_RX12_320 : qa_cv RX12 320 (yX12_opens, cX12_opens, 2, none) 1 := ⟨tb_1704, tb_1706, tb_76, tb_131, tb_1707, ⟨by decide +kernel, by decide +kernel, by decide +kernel⟩, Nat.le_of_ble_eq_true rfl⟩
theorem cv_RX12_323 : qa_cv RX12 323 (yX12_compared, cX12_compared, 3, none) 0 := ⟨tb_1708, tb_1710, tb_77, tb_131, tb_1711, ⟨by decide +kernel, by decide +kernel, by decide +kernel⟩, Nat.le_of_ble_eq_true rfl⟩
theorem cv_RX12_326 : qa_cv RX12 326 (yX12_fact, cX12_fact, 1, (some .boolean)) 0 := ⟨tb_1699, tb_1701, tb_75, tb_131, tb_1702, ⟨by decide +kernel, by decide +kernel, by decide +kernel⟩, Nat.le_of_ble_eq_true rfl⟩
theorem cv_RX12_329 : qa_cv RX12 329 (yX12_answers, cX12_answers, 2, none) 1 := ⟨tb_1740, tb_1742, tb_83, tb_131, tb_1743, ⟨by decide +kernel, by decide +kernel, by decide +kernel⟩, Nat.le_of_ble_eq_true rfl⟩
theorem cv_RX12_336 : qa_cv RX12 336 (yX12_amount, cX12_amount, 5, (some .int)) 2 := ⟨tb_1635, tb_1637, tb_62, tb_131, tb_1638, ⟨by decide +kernel, by decide +kernel, by decide +kernel⟩, Nat.le_of_ble_eq_true rfl⟩
theorem cv_RX12_339 : qa_cv RX12 339 (yX12_spotX, cX12_spotX, 2, (some .int)) 1 := ⟨tb_1654, tb_1656, tb_66, tb_131, tb_1657, ⟨by decide +kernel, by decide +kernel, by decide +kernel⟩, Nat.le_of_ble_eq_true rfl⟩
theorem cv_RX12_342 : qa_cv RX12 342 (yX12_spotY, cX12_spotY, 2, (some .int)) 1 := ⟨tb_1658, tb_1660, tb_67, tb_131, tb_1661, ⟨by decide +kernel, by decide +kernel, by decide +kernel⟩, Nat.le_of_ble_eq_true rfl⟩
theorem cv_RX12_345 : qa_cv RX12 345 (yX12_isNewHill, cX12_isNewHill, 4, (some .boolean)) 1 := ⟨tb_1666, tb_1668, tb_69, tb_131, tb_1669, ⟨by decide +kernel, by decide +kernel, by decide +kernel⟩, Nat.le_of_ble_eq_true rfl⟩
theorem cv_RX12_348 : qa_cs RX12 348 (yX12_landWord, cX12_landWord, 1, (some (.object "java/lang/String"))) 1 := ⟨tb_1613, tb_1614, tb_131, tb_1615, ⟨by decide +kernel, by decide +kernel, by decide +kernel⟩, Nat.le_of_ble_eq_true rfl⟩
theorem cv_RX12_351 : qa_cv RX12 351 (yX12_isFull, cX12_isFull, 4, (some .boolean)) 2 := ⟨tb_1631, tb_1633, tb_61, tb_131, tb_1634, ⟨by decide +kernel, by decide +kernel, by decide +kernel⟩, Nat.le_of_ble_eq_true rfl⟩
theorem cv_RX12_354 : qa_cv RX12 354 (yX12_woods, cX12_woods, 6, none) 0 := ⟨tb_1650, tb_1652, tb_65, tb_131, tb_1653, ⟨by decide +kernel, by decide +kernel, by decide +kernel⟩, Nat.le_of_ble_eq_true rfl⟩
theorem cv_RX12_356 : qa_cv RX12 356 (yX12_hill, cX12_hill, 4, none) 0 := ⟨tb_1662, tb_1664, tb_68, tb_131, tb_1665, ⟨by decide +kernel, by decide +kernel, by decide +kernel⟩, Nat.le_of_ble_eq_true rfl⟩
theorem cv_RX12_358 : qa_cv RX12 358 (yX12_road, cX12_road, 6, none) 0 := ⟨tb_1670, tb_1672, tb_70, tb_131, tb_1673, ⟨by decide +kernel, by decide +kernel, by decide +kernel⟩, Nat.le_of_ble_eq_true rfl⟩
theorem cv_RX12_360 : qa_cv RX12 360 (yX12_sorted, cX12_sorted, 5, none) 0 := ⟨tb_1674, tb_1676, tb_71, tb_131, tb_1677, ⟨by decide +kernel, by decide +kernel, by decide +kernel⟩, Nat.le_of_ble_eq_true rfl⟩
theorem cv_RX12_363 : qa_cv RX12 363 (yX12_starts, cX12_starts, 1, none) 0 := ⟨tb_1597, tb_1599, tb_55, tb_131, tb_1600, ⟨by decide +kernel, by decide +kernel, by decide +kernel⟩, Nat.le_of_ble_eq_true rfl⟩
theorem cv_RX12_366 : qa_cv RX12 366 (yX12_landClause, cX12_landClause, 4, none) 1 := ⟨tb_1601, tb_1603, tb_56, tb_131, tb_1604, ⟨by decide +kernel, by decide +kernel, by decide +kernel⟩, Nat.le_of_ble_eq_true rfl⟩
theorem cv_RX12_369 : qa_cv RX12 369 (yX12_goesOn, cX12_goesOn, 2, (some .boolean)) 0 := ⟨tb_1678, tb_1680, tb_72, tb_131, tb_1681, ⟨by decide +kernel, by decide +kernel, by decide +kernel⟩, Nat.le_of_ble_eq_true rfl⟩
theorem cv_RX12_372 : qa_cs RX12 372 (yX12_lay, cX12_lay, 3, none) 2 := ⟨tb_1682, tb_1683, tb_131, tb_1684, ⟨by decide +kernel, by decide +kernel, by decide +kernel⟩, Nat.le_of_ble_eq_true rfl⟩
theorem cv_RX12_379 : qa_cv RX12 379 (yX12_test, cX12_test, 5, none) 0 := ⟨tb_1695, tb_1697, tb_74, tb_131, tb_1698, ⟨by decide +kernel, by decide +kernel, by decide +kernel⟩, Nat.le_of_ble_eq_true rfl⟩
theorem cv_RX12_385 : qa_cv RX12 385 (yX12_lawClause, cX12_lawClause, 5, none) 1 := ⟨tb_1689, tb_1691, tb_73, tb_131, tb_1692, ⟨by decide +kernel, by decide +kernel, by decide +kernel⟩, Nat.le_of_ble_eq_true rfl⟩
theorem cv_RX12_388 : qa_cs RX12 388 (yX12_truth, cX12_truth, 1, (some .long)) 1 := ⟨tb_1801, tb_1802, tb_131, tb_1803, ⟨by decide +kernel, by decide +kernel, by decide +kernel⟩, Nat.le_of_ble_eq_true rfl⟩
theorem cv_RX12_392 : qa_cs RX12 392 (yX12_both, cX12_both, 5, (some .long)) 3 := ⟨tb_1798, tb_1799, tb_131, tb_1800, ⟨by decide +kernel, by decide +kernel, by decide +kernel⟩, Nat.le_of_ble_eq_true rfl⟩
theorem cv_RX12_395 : qa_cv RX12 395 (yX12_isLaw, cX12_isLaw, 2, (some .boolean)) 1 := ⟨tb_1754, tb_1756, tb_85, tb_131, tb_1757, ⟨by decide +kernel, by decide +kernel, by decide +kernel⟩, Nat.le_of_ble_eq_true rfl⟩
theorem cv_RX12_398 : qa_cv RX12 398 (yX12_woodsBeside, cX12_woodsBeside, 4, (some .int)) 1 := ⟨tb_1778, tb_1780, tb_89, tb_131, tb_1781, ⟨by decide +kernel, by decide +kernel, by decide +kernel⟩, Nat.le_of_ble_eq_true rfl⟩
theorem cv_RX12_401 : qa_cv RX12 401 (yX12_manySee, cX12_manySee, 4, (some .int)) 1 := ⟨tb_1763, tb_1765, tb_86, tb_131, tb_1766, ⟨by decide +kernel, by decide +kernel, by decide +kernel⟩, Nat.le_of_ble_eq_true rfl⟩
theorem cv_RX12_404 : qa_cv RX12 404 (yX12_manyRoads, cX12_manyRoads, 4, (some .int)) 1 := ⟨tb_1767, tb_1769, tb_87, tb_131, tb_1770, ⟨by decide +kernel, by decide +kernel, by decide +kernel⟩, Nat.le_of_ble_eq_true rfl⟩
theorem cv_RX12_407 : qa_cv RX12 407 (yX12_asks, cX12_asks, 7, none) 1 := ⟨tb_1786, tb_1788, tb_91, tb_131, tb_1789, ⟨by decide +kernel, by decide +kernel, by decide +kernel⟩, Nat.le_of_ble_eq_true rfl⟩
theorem cv_RX12_410 : qa_cv RX12 410 (yX12_isSort, cX12_isSort, 2, (some .boolean)) 1 := ⟨tb_1790, tb_1792, tb_92, tb_131, tb_1793, ⟨by decide +kernel, by decide +kernel, by decide +kernel⟩, Nat.le_of_ble_eq_true rfl⟩
theorem cv_RX12_413 : qa_cv RX12 413 (yX12_answer, cX12_answer, 8, (some .long)) 3 := ⟨tb_1794, tb_1796, tb_93, tb_131, tb_1797, ⟨by decide +kernel, by decide +kernel, by decide +kernel⟩, Nat.le_of_ble_eq_true rfl⟩
theorem cv_RX12_419 : qa_cv RX12 419 (yX12_barred, cX12_barred, 5, (some .int)) 1 := ⟨tb_1782, tb_1784, tb_90, tb_131, tb_1785, ⟨by decide +kernel, by decide +kernel, by decide +kernel⟩, Nat.le_of_ble_eq_true rfl⟩
theorem cv_RX12_427 : qa_cv RX12 427 (yX12_farOf, cX12_farOf, 7, (some .int)) 2 := ⟨tb_1829, tb_1831, tb_97, tb_131, tb_1832, ⟨by decide +kernel, by decide +kernel, by decide +kernel⟩, Nat.le_of_ble_eq_true rfl⟩
theorem cv_RX12_434 : qa_cv RX12 434 (yX12_mayStand, cX12_mayStand, 5, (some .boolean)) 2 := ⟨tb_1841, tb_1843, tb_100, tb_131, tb_1844, ⟨by decide +kernel, by decide +kernel, by decide +kernel⟩, Nat.le_of_ble_eq_true rfl⟩
theorem cv_RX12_437 : qa_cv RX12 437 (yX12_fitsNote, cX12_fitsNote, 4, (some .boolean)) 1 := ⟨tb_1849, tb_1851, tb_102, tb_131, tb_1852, ⟨by decide +kernel, by decide +kernel, by decide +kernel⟩, Nat.le_of_ble_eq_true rfl⟩
theorem cv_RX12_440 : qa_cv RX12 440 (yX12_laysOn, cX12_laysOn, 3, (some .boolean)) 0 := ⟨tb_1837, tb_1839, tb_99, tb_131, tb_1840, ⟨by decide +kernel, by decide +kernel, by decide +kernel⟩, Nat.le_of_ble_eq_true rfl⟩
theorem cv_RX12_443 : qa_cv RX12 443 (yX12_fitsOf, cX12_fitsOf, 4, (some .int)) 1 := ⟨tb_1845, tb_1847, tb_101, tb_131, tb_1848, ⟨by decide +kernel, by decide +kernel, by decide +kernel⟩, Nat.le_of_ble_eq_true rfl⟩
theorem cv_RX12_446 : qa_cv RX12 446 (yX12_beginsLayings, cX12_beginsLayings, 4, none) 0 := ⟨tb_1825, tb_1827, tb_96, tb_131, tb_1828, ⟨by decide +kernel, by decide +kernel, by decide +kernel⟩, Nat.le_of_ble_eq_true rfl⟩
theorem cv_RX12_449 : qa_cv RX12 449 (yX12_goesTo, cX12_goesTo, 3, (some .boolean)) 1 := ⟨tb_1833, tb_1835, tb_98, tb_131, tb_1836, ⟨by decide +kernel, by decide +kernel, by decide +kernel⟩, Nat.le_of_ble_eq_true rfl⟩
theorem cv_RX12_452 : qa_cv RX12 452 (yX12_isSet, cX12_isSet, 2, (some .boolean)) 1 := ⟨tb_1817, tb_1819, tb_94, tb_131, tb_1820, ⟨by decide +kernel, by decide +kernel, by decide +kernel⟩, Nat.le_of_ble_eq_true rfl⟩
theorem cv_RX12_455 : qa_cv RX12 455 (yX12_manyFit, cX12_manyFit, 3, (some .int)) 1 := ⟨tb_1821, tb_1823, tb_95, tb_131, tb_1824, ⟨by decide +kernel, by decide +kernel, by decide +kernel⟩, Nat.le_of_ble_eq_true rfl⟩
theorem cv_RX12_464 : qa_cv RX12 464 (yX12_stoodOn, cX12_stoodOn, 5, (some .boolean)) 2 := ⟨tb_1861, tb_1863, tb_104, tb_131, tb_1864, ⟨by decide +kernel, by decide +kernel, by decide +kernel⟩, Nat.le_of_ble_eq_true rfl⟩
theorem cv_RX12_467 : qa_cv RX12 467 (yX12_counts, cX12_counts, 4, none) 3 := ⟨tb_1857, tb_1859, tb_103, tb_131, tb_1860, ⟨by decide +kernel, by decide +kernel, by decide +kernel⟩, Nat.le_of_ble_eq_true rfl⟩
theorem cv_RX12_471 : qa_cs RX12 471 (yX12_divisor, cX12_divisor, 5, (some .int)) 2 := ⟨tb_1869, tb_1870, tb_131, tb_1871, ⟨by decide +kernel, by decide +kernel, by decide +kernel⟩, Nat.le_of_ble_eq_true rfl⟩
theorem cv_RX12_476 : qa_cv RX12 476 (yX12_fillsFitting, cX12_fillsFitting, 4, none) 1 := ⟨tb_1885, tb_1887, tb_105, tb_131, tb_1888, ⟨by decide +kernel, by decide +kernel, by decide +kernel⟩, Nat.le_of_ble_eq_true rfl⟩
theorem cv_RX12_479 : qa_cs RX12 479 (yX12_bits, cX12_bits, 3, (some .int)) 1 := ⟨tb_1897, tb_1898, tb_131, tb_1899, ⟨by decide +kernel, by decide +kernel, by decide +kernel⟩, Nat.le_of_ble_eq_true rfl⟩
theorem cv_RX12_482 : qa_cv RX12 482 (yX12_notesBy, cX12_notesBy, 5, (some .int)) 2 := ⟨tb_1908, tb_1910, tb_106, tb_131, tb_1911, ⟨by decide +kernel, by decide +kernel, by decide +kernel⟩, Nat.le_of_ble_eq_true rfl⟩
theorem cv_RX12_485 : qa_cv RX12 485 (yX12_noneSeen, cX12_noneSeen, 5, (some .int)) 1 := ⟨tb_1920, tb_1922, tb_108, tb_131, tb_1923, ⟨by decide +kernel, by decide +kernel, by decide +kernel⟩, Nat.le_of_ble_eq_true rfl⟩
theorem cv_RX12_489 : qa_cs RX12 489 (yX12_cell, cX12_cell, 4, (some .int)) 4 := ⟨tb_1924, tb_1925, tb_131, tb_1926, ⟨by decide +kernel, by decide +kernel, by decide +kernel⟩, Nat.le_of_ble_eq_true rfl⟩
theorem cv_RX12_493 : qa_cv RX12 493 (yX12_fillsBoth, cX12_fillsBoth, 4, none) 1 := ⟨tb_1916, tb_1918, tb_107, tb_131, tb_1919, ⟨by decide +kernel, by decide +kernel, by decide +kernel⟩, Nat.le_of_ble_eq_true rfl⟩
theorem cv_RX12_496 : qa_cv RX12 496 (yX12_worstOf, cX12_worstOf, 4, (some .int)) 1 := ⟨tb_1927, tb_1929, tb_109, tb_131, tb_1930, ⟨by decide +kernel, by decide +kernel, by decide +kernel⟩, Nat.le_of_ble_eq_true rfl⟩
theorem cv_RX12_499 : qa_cv RX12 499 (yX12_worstThen, cX12_worstThen, 6, (some .int)) 3 := ⟨tb_1943, tb_1945, tb_111, tb_131, tb_1946, ⟨by decide +kernel, by decide +kernel, by decide +kernel⟩, Nat.le_of_ble_eq_true rfl⟩
theorem cv_RX12_503 : qa_cv RX12 503 (yX12_thenOf, cX12_thenOf, 6, (some .int)) 2 := ⟨tb_1939, tb_1941, tb_110, tb_131, tb_1942, ⟨by decide +kernel, by decide +kernel, by decide +kernel⟩, Nat.le_of_ble_eq_true rfl⟩
theorem cv_RX12_506 : qa_cv RX12 506 (yX12_planOf, cX12_planOf, 5, (some .int)) 1 := ⟨tb_1951, tb_1953, tb_112, tb_131, tb_1954, ⟨by decide +kernel, by decide +kernel, by decide +kernel⟩, Nat.le_of_ble_eq_true rfl⟩
theorem cv_RX12_511 : qa_cv RX12 511 (yX12_worstAlone, cX12_worstAlone, 4, (some .int)) 1 := ⟨tb_1960, tb_1962, tb_113, tb_131, tb_1963, ⟨by decide +kernel, by decide +kernel, by decide +kernel⟩, Nat.le_of_ble_eq_true rfl⟩
theorem cv_RX12_514 : qa_cv RX12 514 (yX12_spreads, cX12_spreads, 5, none) 1 := ⟨tb_1968, tb_1970, tb_114, tb_131, tb_1971, ⟨by decide +kernel, by decide +kernel, by decide +kernel⟩, Nat.le_of_ble_eq_true rfl⟩
theorem cv_RX12_524 : qa_cv RX12 524 (yX12_allThings, cX12_allThings, 3, (some .int)) 0 := ⟨tb_1988, tb_1990, tb_115, tb_131, tb_1991, ⟨by decide +kernel, by decide +kernel, by decide +kernel⟩, Nat.le_of_ble_eq_true rfl⟩
theorem cv_RX12_533 : qa_cv RX12 533 (yX12_carry, cX12_carry, 3, none) 1 := ⟨tb_2000, tb_2002, tb_117, tb_131, tb_2003, ⟨by decide +kernel, by decide +kernel, by decide +kernel⟩, Nat.le_of_ble_eq_true rfl⟩
theorem cv_RX12_537 : qa_cv RX12 537 (yX12_carriesAll, cX12_carriesAll, 3, none) 2 := ⟨tb_1996, tb_1998, tb_116, tb_131, tb_1999, ⟨by decide +kernel, by decide +kernel, by decide +kernel⟩, Nat.le_of_ble_eq_true rfl⟩
theorem sr_RX4_52 : (RX4, 52, "wide wood hill road sort", 0) ∈ qa_sr := List.mem_of_getElem? (i := 0) rfl
theorem sr_RX6_33 : (RX6, 33, "apart bar", 1) ∈ qa_sr := List.mem_of_getElem? (i := 1) rfl
theorem sr_RX6_88 : (RX6, 88, "not", 2) ∈ qa_sr := List.mem_of_getElem? (i := 2) rfl
theorem sr_RX6_112 : (RX6, 112, "x y woods seen hill road edge", 3) ∈ qa_sr := List.mem_of_getElem? (i := 3) rfl
theorem sr_RX6_83 : (RX6, 83, "and or", 4) ∈ qa_sr := List.mem_of_getElem? (i := 4) rfl
theorem sr_RX12_235 : (RX12, 235, "wide", 5) ∈ qa_sr := List.mem_of_getElem? (i := 5) rfl
theorem sr_RX12_237 : (RX12, 237, "wood", 6) ∈ qa_sr := List.mem_of_getElem? (i := 6) rfl
theorem sr_RX12_229 : (RX12, 229, "hill", 7) ∈ qa_sr := List.mem_of_getElem? (i := 7) rfl
theorem sr_RX12_231 : (RX12, 231, "road", 8) ∈ qa_sr := List.mem_of_getElem? (i := 8) rfl
theorem sr_RX12_239 : (RX12, 239, "sort", 9) ∈ qa_sr := List.mem_of_getElem? (i := 9) rfl
theorem sr_RX12_376 : (RX12, 376, "apart", 10) ∈ qa_sr := List.mem_of_getElem? (i := 10) rfl
theorem sr_RX12_377 : (RX12, 377, "bar", 11) ∈ qa_sr := List.mem_of_getElem? (i := 11) rfl
theorem sr_RX12_318 : (RX12, 318, "not", 2) ∈ qa_sr := List.mem_of_getElem? (i := 12) rfl
theorem sr_RX12_222 : (RX12, 222, "x", 12) ∈ qa_sr := List.mem_of_getElem? (i := 13) rfl
theorem sr_RX12_224 : (RX12, 224, "y", 13) ∈ qa_sr := List.mem_of_getElem? (i := 14) rfl
theorem sr_RX12_226 : (RX12, 226, "woods", 14) ∈ qa_sr := List.mem_of_getElem? (i := 15) rfl
theorem sr_RX12_228 : (RX12, 228, "seen", 15) ∈ qa_sr := List.mem_of_getElem? (i := 16) rfl
theorem sr_RX12_233 : (RX12, 233, "edge", 16) ∈ qa_sr := List.mem_of_getElem? (i := 17) rfl
theorem sr_RX12_332 : (RX12, 332, "and", 17) ∈ qa_sr := List.mem_of_getElem? (i := 18) rfl
theorem sr_RX12_334 : (RX12, 334, "or", 18) ∈ qa_sr := List.mem_of_getElem? (i := 19) rfl
