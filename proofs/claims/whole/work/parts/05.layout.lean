/-! THE LAYOUT: which cells there are once both objects are made (by program: gen/layout.py) -/
def qa_lay : List qa_K := [.inl (10, [4, 6, 14, 15, 16, 0, 17, 23, 24, 25, 37, 43, 51, 0, 0]), .inl (8, [5, 0, 0, 0, 0, 0, 0, 0]), .inr (0, 400), .inl (7, [7, 0, 13, 0, 0]), .inl (2, [0, 0, 0, 0, 0, 0, 1, 1, 8, 9, 10, 11, 12]), .inr (0, 8), .inr (0, 8), .inr (1, 8), .inr (1, 6), .inr (0, 4), .inr (0, 50), .inr (4, 4), .inr (3, 4), .inr (5, 4), .inl (2, [0, 0, 0, 0, 0, 0, 1, 1, 18, 19, 20, 21, 22]), .inr (0, 8), .inr (0, 8), .inr (1, 8), .inr (1, 6), .inr (0, 4), .inl (3, [4, 17, 0, 0, 0, 0]), .inl (5, [4, 2, 0, 0]), .inl (6, [26, 6, 27, 28, 0, 29, 30, 0, 0, 31, 32, 33, 0, 34, 35, 1, 36]), .inr (1, 216), .inr (1, 4), .inr (0, 16), .inr (0, 4), .inr (1, 4), .inr (1, 10), .inr (0, 10), .inr (0, 10), .inr (0, 4), .inr (1, 4), .inr (0, 5), .inl (1, [0, 38, 39, 40, 0, 41, 42]), .inr (0, 1024), .inr (0, 144), .inr (0, 5), .inr (1, 37), .inr (0, 37), .inl (0, [0, 44, 45, 46, 0, 0, 0, 0, 2, 48, 49, 50, 0, 0, 0, 0]), .inr (1, 36), .inr (0, 36), .inr (0, 576), .inr (0, 0), .inr (0, 8), .inr (0, 8), .inr (0, 8), .inl (9, [52, 53]), .inr (0, 64), .inr (0, 2048), .inl (7, [55, 0, 61, 0, 0]), .inl (2, [0, 0, 0, 0, 0, 0, 1, 1, 56, 57, 58, 59, 60]), .inr (0, 8), .inr (0, 8), .inr (1, 8), .inr (1, 6), .inr (0, 4), .inr (0, 50), .inl (7, [63, 0, 69, 0, 0]), .inl (2, [0, 0, 0, 0, 0, 0, 1, 1, 64, 65, 66, 67, 68]), .inr (0, 8), .inr (0, 8), .inr (1, 8), .inr (1, 6), .inr (0, 4), .inr (0, 50), .inl (7, [71, 0, 77, 0, 0]), .inl (2, [0, 0, 0, 0, 0, 0, 1, 1, 72, 73, 74, 75, 76]), .inr (0, 8), .inr (0, 8), .inr (1, 8), .inr (1, 6), .inr (0, 4), .inr (0, 50), .inl (7, [79, 0, 85, 0, 0]), .inl (2, [0, 0, 0, 0, 0, 0, 1, 1, 80, 81, 82, 83, 84]), .inr (0, 8), .inr (0, 8), .inr (1, 8), .inr (1, 6), .inr (0, 4), .inr (0, 50), .inl (4, [0, 87, 88, 89, 0, 90, 91, 92, 0, 93, 94]), .inr (0, 12), .inr (0, 12), .inr (0, 12), .inr (0, 12), .inr (0, 13), .inr (0, 400), .inr (1, 61), .inr (0, 7), .inl (4, [0, 96, 97, 98, 0, 99, 100, 101, 0, 102, 103]), .inr (0, 12), .inr (0, 12), .inr (0, 12), .inr (0, 12), .inr (0, 13), .inr (0, 400), .inr (1, 61), .inr (0, 7), .inl (4, [0, 105, 106, 107, 0, 108, 109, 110, 0, 111, 112]), .inr (0, 12), .inr (0, 12), .inr (0, 12), .inr (0, 12), .inr (0, 13), .inr (0, 400), .inr (1, 61), .inr (0, 7), .inl (4, [0, 114, 115, 116, 0, 117, 118, 119, 0, 120, 121]), .inr (0, 12), .inr (0, 12), .inr (0, 12), .inr (0, 12), .inr (0, 13), .inr (0, 400), .inr (1, 61), .inr (0, 7), .inl (11, [0, 123, 124, 125, 126, 127, 128, 129, 130, 131, 132, 133, 134, 135, 136, 137, 138, 139, 140, 141, 0, 0, 0, 0, 0, 0, 0, 0, 0, 0, 142, 143, 144, 145, 146, 147, 148, 149, 150, 151, 152, 153, 154, 155, 156, 157, 158, 159, 0, 0, 0, 0, 160, 161, 162, 163, 164, 165, 166, 167, 168, 169, 0, 0]), .inr (0, 8), .inr (0, 36), .inr (0, 8), .inr (0, 8), .inr (0, 6), .inr (0, 6), .inr (0, 4), .inr (0, 10), .inr (0, 10), .inr (0, 10), .inr (0, 10), .inr (0, 10), .inr (0, 5), .inr (0, 36), .inr (0, 8), .inr (0, 8), .inr (0, 6), .inr (0, 6), .inr (0, 4), .inr (2, 400), .inr (0, 1200), .inr (0, 1200), .inr (0, 4), .inr (0, 48), .inr (0, 48), .inr (0, 48), .inr (0, 48), .inr (0, 48), .inr (0, 402), .inr (1, 7), .inr (1, 300), .inr (0, 4), .inr (0, 4), .inr (0, 16), .inr (1, 4), .inr (1, 10), .inr (1, 36), .inr (0, 1024), .inr (0, 8), .inr (0, 16384), .inr (0, 576), .inr (0, 36), .inr (0, 36), .inr (0, 64), .inr (0, 2048), .inr (0, 520), .inr (3, 4)]
/-- the world of a memory: the layout, and the late rows -/
def qO (h : qa_M) : List qa_K := qa_lay ++ List.replicate h.2.2.2 (.inr (0, 9216))
theorem qO_at (h : qa_M) {a : Nat} {k : qa_K} (e : qa_lay[a]? = some k) : (qO h)[a]? = some k := by
  unfold qO
  rw [List.getElem?_append_left (List.getElem?_eq_some_iff.mp e).1]
  exact e
theorem wl_0 (h : qa_M) : (qO h)[0]? = some (.inl (10, [4, 6, 14, 15, 16, 0, 17, 23, 24, 25, 37, 43, 51, 0, 0])) := qO_at h rfl
theorem wl_1 (h : qa_M) : (qO h)[1]? = some (.inl (8, [5, 0, 0, 0, 0, 0, 0, 0])) := qO_at h rfl
theorem wl_2 (h : qa_M) : (qO h)[2]? = some (.inr (0, 400)) := qO_at h rfl
theorem wl_3 (h : qa_M) : (qO h)[3]? = some (.inl (7, [7, 0, 13, 0, 0])) := qO_at h rfl
theorem wl_4 (h : qa_M) : (qO h)[4]? = some (.inl (2, [0, 0, 0, 0, 0, 0, 1, 1, 8, 9, 10, 11, 12])) := qO_at h rfl
theorem wl_5 (h : qa_M) : (qO h)[5]? = some (.inr (0, 8)) := qO_at h rfl
theorem wl_6 (h : qa_M) : (qO h)[6]? = some (.inr (0, 8)) := qO_at h rfl
theorem wl_7 (h : qa_M) : (qO h)[7]? = some (.inr (1, 8)) := qO_at h rfl
theorem wl_8 (h : qa_M) : (qO h)[8]? = some (.inr (1, 6)) := qO_at h rfl
theorem wl_9 (h : qa_M) : (qO h)[9]? = some (.inr (0, 4)) := qO_at h rfl
theorem wl_10 (h : qa_M) : (qO h)[10]? = some (.inr (0, 50)) := qO_at h rfl
theorem wl_11 (h : qa_M) : (qO h)[11]? = some (.inr (4, 4)) := qO_at h rfl
theorem wl_12 (h : qa_M) : (qO h)[12]? = some (.inr (3, 4)) := qO_at h rfl
theorem wl_13 (h : qa_M) : (qO h)[13]? = some (.inr (5, 4)) := qO_at h rfl
theorem wl_14 (h : qa_M) : (qO h)[14]? = some (.inl (2, [0, 0, 0, 0, 0, 0, 1, 1, 18, 19, 20, 21, 22])) := qO_at h rfl
theorem wl_15 (h : qa_M) : (qO h)[15]? = some (.inr (0, 8)) := qO_at h rfl
theorem wl_16 (h : qa_M) : (qO h)[16]? = some (.inr (0, 8)) := qO_at h rfl
theorem wl_17 (h : qa_M) : (qO h)[17]? = some (.inr (1, 8)) := qO_at h rfl
theorem wl_18 (h : qa_M) : (qO h)[18]? = some (.inr (1, 6)) := qO_at h rfl
theorem wl_19 (h : qa_M) : (qO h)[19]? = some (.inr (0, 4)) := qO_at h rfl
theorem wl_20 (h : qa_M) : (qO h)[20]? = some (.inl (3, [4, 17, 0, 0, 0, 0])) := qO_at h rfl
theorem wl_21 (h : qa_M) : (qO h)[21]? = some (.inl (5, [4, 2, 0, 0])) := qO_at h rfl
theorem wl_22 (h : qa_M) : (qO h)[22]? = some (.inl (6, [26, 6, 27, 28, 0, 29, 30, 0, 0, 31, 32, 33, 0, 34, 35, 1, 36])) := qO_at h rfl
theorem wl_23 (h : qa_M) : (qO h)[23]? = some (.inr (1, 216)) := qO_at h rfl
theorem wl_24 (h : qa_M) : (qO h)[24]? = some (.inr (1, 4)) := qO_at h rfl
theorem wl_25 (h : qa_M) : (qO h)[25]? = some (.inr (0, 16)) := qO_at h rfl
theorem wl_26 (h : qa_M) : (qO h)[26]? = some (.inr (0, 4)) := qO_at h rfl
theorem wl_27 (h : qa_M) : (qO h)[27]? = some (.inr (1, 4)) := qO_at h rfl
theorem wl_28 (h : qa_M) : (qO h)[28]? = some (.inr (1, 10)) := qO_at h rfl
theorem wl_29 (h : qa_M) : (qO h)[29]? = some (.inr (0, 10)) := qO_at h rfl
theorem wl_30 (h : qa_M) : (qO h)[30]? = some (.inr (0, 10)) := qO_at h rfl
theorem wl_31 (h : qa_M) : (qO h)[31]? = some (.inr (0, 4)) := qO_at h rfl
theorem wl_32 (h : qa_M) : (qO h)[32]? = some (.inr (1, 4)) := qO_at h rfl
theorem wl_33 (h : qa_M) : (qO h)[33]? = some (.inr (0, 5)) := qO_at h rfl
theorem wl_34 (h : qa_M) : (qO h)[34]? = some (.inl (1, [0, 38, 39, 40, 0, 41, 42])) := qO_at h rfl
theorem wl_35 (h : qa_M) : (qO h)[35]? = some (.inr (0, 1024)) := qO_at h rfl
theorem wl_36 (h : qa_M) : (qO h)[36]? = some (.inr (0, 144)) := qO_at h rfl
theorem wl_37 (h : qa_M) : (qO h)[37]? = some (.inr (0, 5)) := qO_at h rfl
theorem wl_38 (h : qa_M) : (qO h)[38]? = some (.inr (1, 37)) := qO_at h rfl
theorem wl_39 (h : qa_M) : (qO h)[39]? = some (.inr (0, 37)) := qO_at h rfl
theorem wl_40 (h : qa_M) : (qO h)[40]? = some (.inl (0, [0, 44, 45, 46, 0, 0, 0, 0, 2, 48, 49, 50, 0, 0, 0, 0])) := qO_at h rfl
theorem wl_41 (h : qa_M) : (qO h)[41]? = some (.inr (1, 36)) := qO_at h rfl
theorem wl_42 (h : qa_M) : (qO h)[42]? = some (.inr (0, 36)) := qO_at h rfl
theorem wl_43 (h : qa_M) : (qO h)[43]? = some (.inr (0, 576)) := qO_at h rfl
theorem wl_44 (h : qa_M) : (qO h)[44]? = some (.inr (0, 0)) := qO_at h rfl
theorem wl_45 (h : qa_M) : (qO h)[45]? = some (.inr (0, 8)) := qO_at h rfl
theorem wl_46 (h : qa_M) : (qO h)[46]? = some (.inr (0, 8)) := qO_at h rfl
theorem wl_47 (h : qa_M) : (qO h)[47]? = some (.inr (0, 8)) := qO_at h rfl
theorem wl_48 (h : qa_M) : (qO h)[48]? = some (.inl (9, [52, 53])) := qO_at h rfl
theorem wl_49 (h : qa_M) : (qO h)[49]? = some (.inr (0, 64)) := qO_at h rfl
theorem wl_50 (h : qa_M) : (qO h)[50]? = some (.inr (0, 2048)) := qO_at h rfl
theorem wl_51 (h : qa_M) : (qO h)[51]? = some (.inl (7, [55, 0, 61, 0, 0])) := qO_at h rfl
theorem wl_52 (h : qa_M) : (qO h)[52]? = some (.inl (2, [0, 0, 0, 0, 0, 0, 1, 1, 56, 57, 58, 59, 60])) := qO_at h rfl
theorem wl_53 (h : qa_M) : (qO h)[53]? = some (.inr (0, 8)) := qO_at h rfl
theorem wl_54 (h : qa_M) : (qO h)[54]? = some (.inr (0, 8)) := qO_at h rfl
theorem wl_55 (h : qa_M) : (qO h)[55]? = some (.inr (1, 8)) := qO_at h rfl
theorem wl_56 (h : qa_M) : (qO h)[56]? = some (.inr (1, 6)) := qO_at h rfl
theorem wl_57 (h : qa_M) : (qO h)[57]? = some (.inr (0, 4)) := qO_at h rfl
theorem wl_58 (h : qa_M) : (qO h)[58]? = some (.inr (0, 50)) := qO_at h rfl
theorem wl_59 (h : qa_M) : (qO h)[59]? = some (.inl (7, [63, 0, 69, 0, 0])) := qO_at h rfl
theorem wl_60 (h : qa_M) : (qO h)[60]? = some (.inl (2, [0, 0, 0, 0, 0, 0, 1, 1, 64, 65, 66, 67, 68])) := qO_at h rfl
theorem wl_61 (h : qa_M) : (qO h)[61]? = some (.inr (0, 8)) := qO_at h rfl
theorem wl_62 (h : qa_M) : (qO h)[62]? = some (.inr (0, 8)) := qO_at h rfl
theorem wl_63 (h : qa_M) : (qO h)[63]? = some (.inr (1, 8)) := qO_at h rfl
theorem wl_64 (h : qa_M) : (qO h)[64]? = some (.inr (1, 6)) := qO_at h rfl
theorem wl_65 (h : qa_M) : (qO h)[65]? = some (.inr (0, 4)) := qO_at h rfl
theorem wl_66 (h : qa_M) : (qO h)[66]? = some (.inr (0, 50)) := qO_at h rfl
theorem wl_67 (h : qa_M) : (qO h)[67]? = some (.inl (7, [71, 0, 77, 0, 0])) := qO_at h rfl
theorem wl_68 (h : qa_M) : (qO h)[68]? = some (.inl (2, [0, 0, 0, 0, 0, 0, 1, 1, 72, 73, 74, 75, 76])) := qO_at h rfl
theorem wl_69 (h : qa_M) : (qO h)[69]? = some (.inr (0, 8)) := qO_at h rfl
theorem wl_70 (h : qa_M) : (qO h)[70]? = some (.inr (0, 8)) := qO_at h rfl
theorem wl_71 (h : qa_M) : (qO h)[71]? = some (.inr (1, 8)) := qO_at h rfl
theorem wl_72 (h : qa_M) : (qO h)[72]? = some (.inr (1, 6)) := qO_at h rfl
theorem wl_73 (h : qa_M) : (qO h)[73]? = some (.inr (0, 4)) := qO_at h rfl
theorem wl_74 (h : qa_M) : (qO h)[74]? = some (.inr (0, 50)) := qO_at h rfl
theorem wl_75 (h : qa_M) : (qO h)[75]? = some (.inl (7, [79, 0, 85, 0, 0])) := qO_at h rfl
theorem wl_76 (h : qa_M) : (qO h)[76]? = some (.inl (2, [0, 0, 0, 0, 0, 0, 1, 1, 80, 81, 82, 83, 84])) := qO_at h rfl
theorem wl_77 (h : qa_M) : (qO h)[77]? = some (.inr (0, 8)) := qO_at h rfl
theorem wl_78 (h : qa_M) : (qO h)[78]? = some (.inr (0, 8)) := qO_at h rfl
theorem wl_79 (h : qa_M) : (qO h)[79]? = some (.inr (1, 8)) := qO_at h rfl
theorem wl_80 (h : qa_M) : (qO h)[80]? = some (.inr (1, 6)) := qO_at h rfl
theorem wl_81 (h : qa_M) : (qO h)[81]? = some (.inr (0, 4)) := qO_at h rfl
theorem wl_82 (h : qa_M) : (qO h)[82]? = some (.inr (0, 50)) := qO_at h rfl
theorem wl_83 (h : qa_M) : (qO h)[83]? = some (.inl (4, [0, 87, 88, 89, 0, 90, 91, 92, 0, 93, 94])) := qO_at h rfl
theorem wl_84 (h : qa_M) : (qO h)[84]? = some (.inr (0, 12)) := qO_at h rfl
theorem wl_85 (h : qa_M) : (qO h)[85]? = some (.inr (0, 12)) := qO_at h rfl
theorem wl_86 (h : qa_M) : (qO h)[86]? = some (.inr (0, 12)) := qO_at h rfl
theorem wl_87 (h : qa_M) : (qO h)[87]? = some (.inr (0, 12)) := qO_at h rfl
theorem wl_88 (h : qa_M) : (qO h)[88]? = some (.inr (0, 13)) := qO_at h rfl
theorem wl_89 (h : qa_M) : (qO h)[89]? = some (.inr (0, 400)) := qO_at h rfl
theorem wl_90 (h : qa_M) : (qO h)[90]? = some (.inr (1, 61)) := qO_at h rfl
theorem wl_91 (h : qa_M) : (qO h)[91]? = some (.inr (0, 7)) := qO_at h rfl
theorem wl_92 (h : qa_M) : (qO h)[92]? = some (.inl (4, [0, 96, 97, 98, 0, 99, 100, 101, 0, 102, 103])) := qO_at h rfl
theorem wl_93 (h : qa_M) : (qO h)[93]? = some (.inr (0, 12)) := qO_at h rfl
theorem wl_94 (h : qa_M) : (qO h)[94]? = some (.inr (0, 12)) := qO_at h rfl
theorem wl_95 (h : qa_M) : (qO h)[95]? = some (.inr (0, 12)) := qO_at h rfl
theorem wl_96 (h : qa_M) : (qO h)[96]? = some (.inr (0, 12)) := qO_at h rfl
theorem wl_97 (h : qa_M) : (qO h)[97]? = some (.inr (0, 13)) := qO_at h rfl
theorem wl_98 (h : qa_M) : (qO h)[98]? = some (.inr (0, 400)) := qO_at h rfl
theorem wl_99 (h : qa_M) : (qO h)[99]? = some (.inr (1, 61)) := qO_at h rfl
theorem wl_100 (h : qa_M) : (qO h)[100]? = some (.inr (0, 7)) := qO_at h rfl
theorem wl_101 (h : qa_M) : (qO h)[101]? = some (.inl (4, [0, 105, 106, 107, 0, 108, 109, 110, 0, 111, 112])) := qO_at h rfl
theorem wl_102 (h : qa_M) : (qO h)[102]? = some (.inr (0, 12)) := qO_at h rfl
theorem wl_103 (h : qa_M) : (qO h)[103]? = some (.inr (0, 12)) := qO_at h rfl
theorem wl_104 (h : qa_M) : (qO h)[104]? = some (.inr (0, 12)) := qO_at h rfl
theorem wl_105 (h : qa_M) : (qO h)[105]? = some (.inr (0, 12)) := qO_at h rfl
theorem wl_106 (h : qa_M) : (qO h)[106]? = some (.inr (0, 13)) := qO_at h rfl
theorem wl_107 (h : qa_M) : (qO h)[107]? = some (.inr (0, 400)) := qO_at h rfl
theorem wl_108 (h : qa_M) : (qO h)[108]? = some (.inr (1, 61)) := qO_at h rfl
theorem wl_109 (h : qa_M) : (qO h)[109]? = some (.inr (0, 7)) := qO_at h rfl
theorem wl_110 (h : qa_M) : (qO h)[110]? = some (.inl (4, [0, 114, 115, 116, 0, 117, 118, 119, 0, 120, 121])) := qO_at h rfl
theorem wl_111 (h : qa_M) : (qO h)[111]? = some (.inr (0, 12)) := qO_at h rfl
theorem wl_112 (h : qa_M) : (qO h)[112]? = some (.inr (0, 12)) := qO_at h rfl
theorem wl_113 (h : qa_M) : (qO h)[113]? = some (.inr (0, 12)) := qO_at h rfl
theorem wl_114 (h : qa_M) : (qO h)[114]? = some (.inr (0, 12)) := qO_at h rfl
theorem wl_115 (h : qa_M) : (qO h)[115]? = some (.inr (0, 13)) := qO_at h rfl
theorem wl_116 (h : qa_M) : (qO h)[116]? = some (.inr (0, 400)) := qO_at h rfl
theorem wl_117 (h : qa_M) : (qO h)[117]? = some (.inr (1, 61)) := qO_at h rfl
theorem wl_118 (h : qa_M) : (qO h)[118]? = some (.inr (0, 7)) := qO_at h rfl
theorem wl_119 (h : qa_M) : (qO h)[119]? = some (.inl (11, [0, 123, 124, 125, 126, 127, 128, 129, 130, 131, 132, 133, 134, 135, 136, 137, 138, 139, 140, 141, 0, 0, 0, 0, 0, 0, 0, 0, 0, 0, 142, 143, 144, 145, 146, 147, 148, 149, 150, 151, 152, 153, 154, 155, 156, 157, 158, 159, 0, 0, 0, 0, 160, 161, 162, 163, 164, 165, 166, 167, 168, 169, 0, 0])) := qO_at h rfl
theorem wl_120 (h : qa_M) : (qO h)[120]? = some (.inr (0, 8)) := qO_at h rfl
theorem wl_121 (h : qa_M) : (qO h)[121]? = some (.inr (0, 36)) := qO_at h rfl
theorem wl_122 (h : qa_M) : (qO h)[122]? = some (.inr (0, 8)) := qO_at h rfl
theorem wl_123 (h : qa_M) : (qO h)[123]? = some (.inr (0, 8)) := qO_at h rfl
theorem wl_124 (h : qa_M) : (qO h)[124]? = some (.inr (0, 6)) := qO_at h rfl
theorem wl_125 (h : qa_M) : (qO h)[125]? = some (.inr (0, 6)) := qO_at h rfl
theorem wl_126 (h : qa_M) : (qO h)[126]? = some (.inr (0, 4)) := qO_at h rfl
theorem wl_127 (h : qa_M) : (qO h)[127]? = some (.inr (0, 10)) := qO_at h rfl
theorem wl_128 (h : qa_M) : (qO h)[128]? = some (.inr (0, 10)) := qO_at h rfl
theorem wl_129 (h : qa_M) : (qO h)[129]? = some (.inr (0, 10)) := qO_at h rfl
theorem wl_130 (h : qa_M) : (qO h)[130]? = some (.inr (0, 10)) := qO_at h rfl
theorem wl_131 (h : qa_M) : (qO h)[131]? = some (.inr (0, 10)) := qO_at h rfl
theorem wl_132 (h : qa_M) : (qO h)[132]? = some (.inr (0, 5)) := qO_at h rfl
theorem wl_133 (h : qa_M) : (qO h)[133]? = some (.inr (0, 36)) := qO_at h rfl
theorem wl_134 (h : qa_M) : (qO h)[134]? = some (.inr (0, 8)) := qO_at h rfl
theorem wl_135 (h : qa_M) : (qO h)[135]? = some (.inr (0, 8)) := qO_at h rfl
theorem wl_136 (h : qa_M) : (qO h)[136]? = some (.inr (0, 6)) := qO_at h rfl
theorem wl_137 (h : qa_M) : (qO h)[137]? = some (.inr (0, 6)) := qO_at h rfl
theorem wl_138 (h : qa_M) : (qO h)[138]? = some (.inr (0, 4)) := qO_at h rfl
theorem wl_139 (h : qa_M) : (qO h)[139]? = some (.inr (2, 400)) := qO_at h rfl
theorem wl_140 (h : qa_M) : (qO h)[140]? = some (.inr (0, 1200)) := qO_at h rfl
theorem wl_141 (h : qa_M) : (qO h)[141]? = some (.inr (0, 1200)) := qO_at h rfl
theorem wl_142 (h : qa_M) : (qO h)[142]? = some (.inr (0, 4)) := qO_at h rfl
theorem wl_143 (h : qa_M) : (qO h)[143]? = some (.inr (0, 48)) := qO_at h rfl
theorem wl_144 (h : qa_M) : (qO h)[144]? = some (.inr (0, 48)) := qO_at h rfl
theorem wl_145 (h : qa_M) : (qO h)[145]? = some (.inr (0, 48)) := qO_at h rfl
theorem wl_146 (h : qa_M) : (qO h)[146]? = some (.inr (0, 48)) := qO_at h rfl
theorem wl_147 (h : qa_M) : (qO h)[147]? = some (.inr (0, 48)) := qO_at h rfl
theorem wl_148 (h : qa_M) : (qO h)[148]? = some (.inr (0, 402)) := qO_at h rfl
theorem wl_149 (h : qa_M) : (qO h)[149]? = some (.inr (1, 7)) := qO_at h rfl
theorem wl_150 (h : qa_M) : (qO h)[150]? = some (.inr (1, 300)) := qO_at h rfl
theorem wl_151 (h : qa_M) : (qO h)[151]? = some (.inr (0, 4)) := qO_at h rfl
theorem wl_152 (h : qa_M) : (qO h)[152]? = some (.inr (0, 4)) := qO_at h rfl
theorem wl_153 (h : qa_M) : (qO h)[153]? = some (.inr (0, 16)) := qO_at h rfl
theorem wl_154 (h : qa_M) : (qO h)[154]? = some (.inr (1, 4)) := qO_at h rfl
theorem wl_155 (h : qa_M) : (qO h)[155]? = some (.inr (1, 10)) := qO_at h rfl
theorem wl_156 (h : qa_M) : (qO h)[156]? = some (.inr (1, 36)) := qO_at h rfl
theorem wl_157 (h : qa_M) : (qO h)[157]? = some (.inr (0, 1024)) := qO_at h rfl
theorem wl_158 (h : qa_M) : (qO h)[158]? = some (.inr (0, 8)) := qO_at h rfl
theorem wl_159 (h : qa_M) : (qO h)[159]? = some (.inr (0, 16384)) := qO_at h rfl
theorem wl_160 (h : qa_M) : (qO h)[160]? = some (.inr (0, 576)) := qO_at h rfl
theorem wl_161 (h : qa_M) : (qO h)[161]? = some (.inr (0, 36)) := qO_at h rfl
theorem wl_162 (h : qa_M) : (qO h)[162]? = some (.inr (0, 36)) := qO_at h rfl
theorem wl_163 (h : qa_M) : (qO h)[163]? = some (.inr (0, 64)) := qO_at h rfl
theorem wl_164 (h : qa_M) : (qO h)[164]? = some (.inr (0, 2048)) := qO_at h rfl
theorem wl_165 (h : qa_M) : (qO h)[165]? = some (.inr (0, 520)) := qO_at h rfl
theorem wl_166 (h : qa_M) : (qO h)[166]? = some (.inr (3, 4)) := qO_at h rfl
def qLand (a : Nat) : Prop := a = 4 ∨ a = 14 ∨ a = 52 ∨ a = 60 ∨ a = 68 ∨ a = 76
theorem wl_Land_0 {a : Nat} (e : qLand a) (h : qa_M) : (qO h)[a]? = some (.inl (2, [0, 0, 0, 0, 0, 0, 1, 1, a + 4, a + 5, a + 6, a + 7, a + 8])) := by
  rcases e with rfl | rfl | rfl | rfl | rfl | rfl <;> exact qO_at h rfl
theorem wl_Land_1 {a : Nat} (e : qLand a) (h : qa_M) : (qO h)[a + 1]? = some (.inr (0, 8)) := by
  rcases e with rfl | rfl | rfl | rfl | rfl | rfl <;> exact qO_at h rfl
theorem wl_Land_2 {a : Nat} (e : qLand a) (h : qa_M) : (qO h)[a + 2]? = some (.inr (0, 8)) := by
  rcases e with rfl | rfl | rfl | rfl | rfl | rfl <;> exact qO_at h rfl
theorem wl_Land_3 {a : Nat} (e : qLand a) (h : qa_M) : (qO h)[a + 3]? = some (.inr (1, 8)) := by
  rcases e with rfl | rfl | rfl | rfl | rfl | rfl <;> exact qO_at h rfl
theorem wl_Land_4 {a : Nat} (e : qLand a) (h : qa_M) : (qO h)[a + 4]? = some (.inr (1, 6)) := by
  rcases e with rfl | rfl | rfl | rfl | rfl | rfl <;> exact qO_at h rfl
theorem wl_Land_5 {a : Nat} (e : qLand a) (h : qa_M) : (qO h)[a + 5]? = some (.inr (0, 4)) := by
  rcases e with rfl | rfl | rfl | rfl | rfl | rfl <;> exact qO_at h rfl
def qState (a : Nat) : Prop := a = 3 ∨ a = 51 ∨ a = 59 ∨ a = 67 ∨ a = 75
theorem wl_State_0 {a : Nat} (e : qState a) (h : qa_M) : (qO h)[a]? = some (.inl (7, [a + 4, 0, a + 10, 0, 0])) := by
  rcases e with rfl | rfl | rfl | rfl | rfl <;> exact qO_at h rfl
theorem wl_State_1 {a : Nat} (e : qState a) (h : qa_M) : (qO h)[a + 1]? = some (.inl (2, [0, 0, 0, 0, 0, 0, 1, 1, a + 5, a + 6, a + 7, a + 8, a + 9])) := by
  rcases e with rfl | rfl | rfl | rfl | rfl <;> exact qO_at h rfl
theorem wl_State_2 {a : Nat} (e : qState a) (h : qa_M) : (qO h)[a + 2]? = some (.inr (0, 8)) := by
  rcases e with rfl | rfl | rfl | rfl | rfl <;> exact qO_at h rfl
theorem wl_State_3 {a : Nat} (e : qState a) (h : qa_M) : (qO h)[a + 3]? = some (.inr (0, 8)) := by
  rcases e with rfl | rfl | rfl | rfl | rfl <;> exact qO_at h rfl
theorem wl_State_4 {a : Nat} (e : qState a) (h : qa_M) : (qO h)[a + 4]? = some (.inr (1, 8)) := by
  rcases e with rfl | rfl | rfl | rfl | rfl <;> exact qO_at h rfl
theorem wl_State_5 {a : Nat} (e : qState a) (h : qa_M) : (qO h)[a + 5]? = some (.inr (1, 6)) := by
  rcases e with rfl | rfl | rfl | rfl | rfl <;> exact qO_at h rfl
theorem wl_State_6 {a : Nat} (e : qState a) (h : qa_M) : (qO h)[a + 6]? = some (.inr (0, 4)) := by
  rcases e with rfl | rfl | rfl | rfl | rfl <;> exact qO_at h rfl
theorem wl_State_7 {a : Nat} (e : qState a) (h : qa_M) : (qO h)[a + 7]? = some (.inr (0, 50)) := by
  rcases e with rfl | rfl | rfl | rfl | rfl <;> exact qO_at h rfl
def qLaw (a : Nat) : Prop := a = 83 ∨ a = 92 ∨ a = 101 ∨ a = 110
theorem wl_Law_0 {a : Nat} (e : qLaw a) (h : qa_M) : (qO h)[a]? = some (.inl (4, [0, a + 4, a + 5, a + 6, 0, a + 7, a + 8, a + 9, 0, a + 10, a + 11])) := by
  rcases e with rfl | rfl | rfl | rfl <;> exact qO_at h rfl
theorem wl_Law_1 {a : Nat} (e : qLaw a) (h : qa_M) : (qO h)[a + 1]? = some (.inr (0, 12)) := by
  rcases e with rfl | rfl | rfl | rfl <;> exact qO_at h rfl
theorem wl_Law_2 {a : Nat} (e : qLaw a) (h : qa_M) : (qO h)[a + 2]? = some (.inr (0, 12)) := by
  rcases e with rfl | rfl | rfl | rfl <;> exact qO_at h rfl
theorem wl_Law_3 {a : Nat} (e : qLaw a) (h : qa_M) : (qO h)[a + 3]? = some (.inr (0, 12)) := by
  rcases e with rfl | rfl | rfl | rfl <;> exact qO_at h rfl
theorem wl_Law_4 {a : Nat} (e : qLaw a) (h : qa_M) : (qO h)[a + 4]? = some (.inr (0, 12)) := by
  rcases e with rfl | rfl | rfl | rfl <;> exact qO_at h rfl
theorem wl_Law_5 {a : Nat} (e : qLaw a) (h : qa_M) : (qO h)[a + 5]? = some (.inr (0, 13)) := by
  rcases e with rfl | rfl | rfl | rfl <;> exact qO_at h rfl
theorem wl_Law_6 {a : Nat} (e : qLaw a) (h : qa_M) : (qO h)[a + 6]? = some (.inr (0, 400)) := by
  rcases e with rfl | rfl | rfl | rfl <;> exact qO_at h rfl
theorem wl_Law_7 {a : Nat} (e : qLaw a) (h : qa_M) : (qO h)[a + 7]? = some (.inr (1, 61)) := by
  rcases e with rfl | rfl | rfl | rfl <;> exact qO_at h rfl
theorem wl_Law_8 {a : Nat} (e : qLaw a) (h : qa_M) : (qO h)[a + 8]? = some (.inr (0, 7)) := by
  rcases e with rfl | rfl | rfl | rfl <;> exact qO_at h rfl
theorem qState_land {a : Nat} (e : qState a) : qLand (a + 1) := by
  unfold qState at e
  unfold qLand
  omega
