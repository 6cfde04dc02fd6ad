theorem dX12_asks_0 : decode cX12_asks 0 = .ok (.iload_n 1, 1) := by decide +kernel
theorem dX12_asks_1 : decode cX12_asks 1 = .ok (.bipush 6, 2) := by decide +kernel
theorem dX12_asks_3 : decode cX12_asks 3 = .ok (.irem, 1) := by decide +kernel
theorem dX12_asks_4 : decode cX12_asks 4 = .ok (.istore_n 2, 1) := by decide +kernel
theorem dX12_asks_5 : decode cX12_asks 5 = .ok (.iload_n 1, 1) := by decide +kernel
theorem dX12_asks_6 : decode cX12_asks 6 = .ok (.bipush 6, 2) := by decide +kernel
theorem dX12_asks_8 : decode cX12_asks 8 = .ok (.idiv, 1) := by decide +kernel
theorem dX12_asks_9 : decode cX12_asks 9 = .ok (.istore_n 3, 1) := by decide +kernel
theorem dX12_asks_10 : decode cX12_asks 10 = .ok (.iload_n 2, 1) := by decide +kernel
theorem dX12_asks_11 : decode cX12_asks 11 = .ok (.iload_n 3, 1) := by decide +kernel
theorem dX12_asks_12 : decode cX12_asks 12 = .ok (.if_icmp .ge 7, 3) := by decide +kernel
theorem dX12_asks_15 : decode cX12_asks 15 = .ok (.iload_n 2, 1) := by decide +kernel
theorem dX12_asks_16 : decode cX12_asks 16 = .ok (.goto 4, 3) := by decide +kernel
theorem dX12_asks_19 : decode cX12_asks 19 = .ok (.iload_n 3, 1) := by decide +kernel
theorem dX12_asks_20 : decode cX12_asks 20 = .ok (.istore 4, 2) := by decide +kernel
theorem dX12_asks_22 : decode cX12_asks 22 = .ok (.aload_n 0, 1) := by decide +kernel
theorem dX12_asks_23 : decode cX12_asks 23 = .ok (.getfield 7, 3) := by decide +kernel
theorem dX12_asks_26 : decode cX12_asks 26 = .ok (.iconst 0, 1) := by decide +kernel
theorem dX12_asks_27 : decode cX12_asks 27 = .ok (.iaload, 1) := by decide +kernel
theorem dX12_asks_28 : decode cX12_asks 28 = .ok (.iconst 1, 1) := by decide +kernel
theorem dX12_asks_29 : decode cX12_asks 29 = .ok (.isub, 1) := by decide +kernel
theorem dX12_asks_30 : decode cX12_asks 30 = .ok (.iload_n 2, 1) := by decide +kernel
theorem dX12_asks_31 : decode cX12_asks 31 = .ok (.isub, 1) := by decide +kernel
theorem dX12_asks_32 : decode cX12_asks 32 = .ok (.istore 5, 2) := by decide +kernel
theorem dX12_asks_34 : decode cX12_asks 34 = .ok (.aload_n 0, 1) := by decide +kernel
theorem dX12_asks_35 : decode cX12_asks 35 = .ok (.getfield 7, 3) := by decide +kernel
theorem dX12_asks_38 : decode cX12_asks 38 = .ok (.iconst 1, 1) := by decide +kernel
theorem dX12_asks_39 : decode cX12_asks 39 = .ok (.iaload, 1) := by decide +kernel
theorem dX12_asks_40 : decode cX12_asks 40 = .ok (.iconst 1, 1) := by decide +kernel
theorem dX12_asks_41 : decode cX12_asks 41 = .ok (.isub, 1) := by decide +kernel
theorem dX12_asks_42 : decode cX12_asks 42 = .ok (.iload_n 3, 1) := by decide +kernel
theorem dX12_asks_43 : decode cX12_asks 43 = .ok (.isub, 1) := by decide +kernel
theorem dX12_asks_44 : decode cX12_asks 44 = .ok (.istore 6, 2) := by decide +kernel
theorem dX12_asks_46 : decode cX12_asks 46 = .ok (.aload_n 0, 1) := by decide +kernel
theorem dX12_asks_47 : decode cX12_asks 47 = .ok (.getfield 102, 3) := by decide +kernel
theorem dX12_asks_50 : decode cX12_asks 50 = .ok (.iconst 0, 1) := by decide +kernel
theorem dX12_asks_51 : decode cX12_asks 51 = .ok (.iload_n 2, 1) := by decide +kernel
theorem dX12_asks_52 : decode cX12_asks 52 = .ok (.i2l, 1) := by decide +kernel
theorem dX12_asks_53 : decode cX12_asks 53 = .ok (.lastore, 1) := by decide +kernel
theorem dX12_asks_54 : decode cX12_asks 54 = .ok (.aload_n 0, 1) := by decide +kernel
theorem dX12_asks_55 : decode cX12_asks 55 = .ok (.getfield 102, 3) := by decide +kernel
theorem dX12_asks_58 : decode cX12_asks 58 = .ok (.iconst 1, 1) := by decide +kernel
theorem dX12_asks_59 : decode cX12_asks 59 = .ok (.iload_n 3, 1) := by decide +kernel
theorem dX12_asks_60 : decode cX12_asks 60 = .ok (.i2l, 1) := by decide +kernel
theorem dX12_asks_61 : decode cX12_asks 61 = .ok (.lastore, 1) := by decide +kernel
theorem dX12_asks_62 : decode cX12_asks 62 = .ok (.aload_n 0, 1) := by decide +kernel
theorem dX12_asks_63 : decode cX12_asks 63 = .ok (.getfield 102, 3) := by decide +kernel
theorem dX12_asks_66 : decode cX12_asks 66 = .ok (.iconst 2, 1) := by decide +kernel
theorem dX12_asks_67 : decode cX12_asks 67 = .ok (.aload_n 0, 1) := by decide +kernel
theorem dX12_asks_68 : decode cX12_asks 68 = .ok (.iload_n 1, 1) := by decide +kernel
theorem dX12_asks_69 : decode cX12_asks 69 = .ok (.invokevirtual 398, 3) := by decide +kernel
theorem dX12_asks_72 : decode cX12_asks 72 = .ok (.i2l, 1) := by decide +kernel
theorem dX12_asks_73 : decode cX12_asks 73 = .ok (.lastore, 1) := by decide +kernel
theorem dX12_asks_74 : decode cX12_asks 74 = .ok (.aload_n 0, 1) := by decide +kernel
theorem dX12_asks_75 : decode cX12_asks 75 = .ok (.getfield 102, 3) := by decide +kernel
theorem dX12_asks_78 : decode cX12_asks 78 = .ok (.iconst 3, 1) := by decide +kernel
theorem dX12_asks_79 : decode cX12_asks 79 = .ok (.aload_n 0, 1) := by decide +kernel
theorem dX12_asks_80 : decode cX12_asks 80 = .ok (.iload_n 1, 1) := by decide +kernel
theorem dX12_asks_81 : decode cX12_asks 81 = .ok (.invokevirtual 401, 3) := by decide +kernel
theorem dX12_asks_84 : decode cX12_asks 84 = .ok (.i2l, 1) := by decide +kernel
theorem dX12_asks_85 : decode cX12_asks 85 = .ok (.lastore, 1) := by decide +kernel
theorem dX12_asks_86 : decode cX12_asks 86 = .ok (.aload_n 0, 1) := by decide +kernel
theorem dX12_asks_87 : decode cX12_asks 87 = .ok (.getfield 102, 3) := by decide +kernel
theorem dX12_asks_90 : decode cX12_asks 90 = .ok (.iconst 4, 1) := by decide +kernel
theorem dX12_asks_91 : decode cX12_asks 91 = .ok (.aload_n 0, 1) := by decide +kernel
theorem dX12_asks_92 : decode cX12_asks 92 = .ok (.iload_n 1, 1) := by decide +kernel
theorem dX12_asks_93 : decode cX12_asks 93 = .ok (.invokevirtual 169, 3) := by decide +kernel
theorem dX12_asks_96 : decode cX12_asks 96 = .ok (.iconst (-1), 1) := by decide +kernel
theorem dX12_asks_97 : decode cX12_asks 97 = .ok (.if_icmp .ne 7, 3) := by decide +kernel
theorem dX12_asks_100 : decode cX12_asks 100 = .ok (.lconst 0, 1) := by decide +kernel
theorem dX12_asks_101 : decode cX12_asks 101 = .ok (.goto 4, 3) := by decide +kernel
theorem dX12_asks_104 : decode cX12_asks 104 = .ok (.lconst 1, 1) := by decide +kernel
theorem dX12_asks_105 : decode cX12_asks 105 = .ok (.lastore, 1) := by decide +kernel
theorem dX12_asks_106 : decode cX12_asks 106 = .ok (.aload_n 0, 1) := by decide +kernel
theorem dX12_asks_107 : decode cX12_asks 107 = .ok (.getfield 102, 3) := by decide +kernel
theorem dX12_asks_110 : decode cX12_asks 110 = .ok (.iconst 5, 1) := by decide +kernel
theorem dX12_asks_111 : decode cX12_asks 111 = .ok (.aload_n 0, 1) := by decide +kernel
theorem dX12_asks_112 : decode cX12_asks 112 = .ok (.iload_n 1, 1) := by decide +kernel
theorem dX12_asks_113 : decode cX12_asks 113 = .ok (.invokevirtual 404, 3) := by decide +kernel
theorem dX12_asks_116 : decode cX12_asks 116 = .ok (.i2l, 1) := by decide +kernel
theorem dX12_asks_117 : decode cX12_asks 117 = .ok (.lastore, 1) := by decide +kernel
theorem dX12_asks_118 : decode cX12_asks 118 = .ok (.aload_n 0, 1) := by decide +kernel
theorem dX12_asks_119 : decode cX12_asks 119 = .ok (.getfield 102, 3) := by decide +kernel
theorem dX12_asks_122 : decode cX12_asks 122 = .ok (.bipush 6, 2) := by decide +kernel
theorem dX12_asks_124 : decode cX12_asks 124 = .ok (.iload 4, 2) := by decide +kernel
theorem dX12_asks_126 : decode cX12_asks 126 = .ok (.iload 5, 2) := by decide +kernel
theorem dX12_asks_128 : decode cX12_asks 128 = .ok (.if_icmp .ge 22, 3) := by decide +kernel
theorem dX12_asks_131 : decode cX12_asks 131 = .ok (.iload 4, 2) := by decide +kernel
theorem dX12_asks_133 : decode cX12_asks 133 = .ok (.iload 6, 2) := by decide +kernel
theorem dX12_asks_135 : decode cX12_asks 135 = .ok (.if_icmp .ge 9, 3) := by decide +kernel
theorem dX12_asks_138 : decode cX12_asks 138 = .ok (.iload 4, 2) := by decide +kernel
theorem dX12_asks_140 : decode cX12_asks 140 = .ok (.i2l, 1) := by decide +kernel
theorem dX12_asks_141 : decode cX12_asks 141 = .ok (.goto 25, 3) := by decide +kernel
theorem dX12_asks_144 : decode cX12_asks 144 = .ok (.iload 6, 2) := by decide +kernel
theorem dX12_asks_146 : decode cX12_asks 146 = .ok (.i2l, 1) := by decide +kernel
theorem dX12_asks_147 : decode cX12_asks 147 = .ok (.goto 19, 3) := by decide +kernel
theorem dX12_asks_150 : decode cX12_asks 150 = .ok (.iload 5, 2) := by decide +kernel
theorem dX12_asks_152 : decode cX12_asks 152 = .ok (.iload 6, 2) := by decide +kernel
theorem dX12_asks_154 : decode cX12_asks 154 = .ok (.if_icmp .ge 9, 3) := by decide +kernel
theorem dX12_asks_157 : decode cX12_asks 157 = .ok (.iload 5, 2) := by decide +kernel
theorem dX12_asks_159 : decode cX12_asks 159 = .ok (.i2l, 1) := by decide +kernel
theorem dX12_asks_160 : decode cX12_asks 160 = .ok (.goto 6, 3) := by decide +kernel
theorem dX12_asks_163 : decode cX12_asks 163 = .ok (.iload 6, 2) := by decide +kernel
theorem dX12_asks_165 : decode cX12_asks 165 = .ok (.i2l, 1) := by decide +kernel
theorem dX12_asks_166 : decode cX12_asks 166 = .ok (.lastore, 1) := by decide +kernel
theorem dX12_asks_167 : decode cX12_asks 167 = .ok (.return_, 1) := by decide +kernel
theorem dX12_barred_0 : decode cX12_barred 0 = .ok (.aload_n 0, 1) := by decide +kernel
theorem dX12_barred_1 : decode cX12_barred 1 = .ok (.getfield 7, 3) := by decide +kernel
theorem dX12_barred_4 : decode cX12_barred 4 = .ok (.bipush 6, 2) := by decide +kernel
theorem dX12_barred_6 : decode cX12_barred 6 = .ok (.iaload, 1) := by decide +kernel
theorem dX12_barred_7 : decode cX12_barred 7 = .ok (.iconst 1, 1) := by decide +kernel
theorem dX12_barred_8 : decode cX12_barred 8 = .ok (.isub, 1) := by decide +kernel
theorem dX12_barred_9 : decode cX12_barred 9 = .ok (.istore_n 2, 1) := by decide +kernel
theorem dX12_barred_10 : decode cX12_barred 10 = .ok (.iconst 0, 1) := by decide +kernel
theorem dX12_barred_11 : decode cX12_barred 11 = .ok (.istore_n 3, 1) := by decide +kernel
theorem dX12_barred_12 : decode cX12_barred 12 = .ok (.iload_n 2, 1) := by decide +kernel
theorem dX12_barred_13 : decode cX12_barred 13 = .ok (.iconst (-1), 1) := by decide +kernel
theorem dX12_barred_14 : decode cX12_barred 14 = .ok (.if_icmp .eq 101, 3) := by decide +kernel
theorem dX12_barred_17 : decode cX12_barred 17 = .ok (.aload_n 0, 1) := by decide +kernel
theorem dX12_barred_18 : decode cX12_barred 18 = .ok (.iload_n 1, 1) := by decide +kernel
theorem dX12_barred_19 : decode cX12_barred 19 = .ok (.invokevirtual 407, 3) := by decide +kernel
theorem dX12_barred_22 : decode cX12_barred 22 = .ok (.bipush 12, 2) := by decide +kernel
theorem dX12_barred_24 : decode cX12_barred 24 = .ok (.iload_n 2, 1) := by decide +kernel
theorem dX12_barred_25 : decode cX12_barred 25 = .ok (.imul, 1) := by decide +kernel
theorem dX12_barred_26 : decode cX12_barred 26 = .ok (.istore 4, 2) := by decide +kernel
theorem dX12_barred_28 : decode cX12_barred 28 = .ok (.iload 4, 2) := by decide +kernel
theorem dX12_barred_30 : decode cX12_barred 30 = .ok (.bipush 12, 2) := by decide +kernel
theorem dX12_barred_32 : decode cX12_barred 32 = .ok (.iload_n 2, 1) := by decide +kernel
theorem dX12_barred_33 : decode cX12_barred 33 = .ok (.imul, 1) := by decide +kernel
theorem dX12_barred_34 : decode cX12_barred 34 = .ok (.aload_n 0, 1) := by decide +kernel
theorem dX12_barred_35 : decode cX12_barred 35 = .ok (.getfield 81, 3) := by decide +kernel
theorem dX12_barred_38 : decode cX12_barred 38 = .ok (.iload_n 2, 1) := by decide +kernel
theorem dX12_barred_39 : decode cX12_barred 39 = .ok (.iaload, 1) := by decide +kernel
theorem dX12_barred_40 : decode cX12_barred 40 = .ok (.iadd, 1) := by decide +kernel
theorem dX12_barred_41 : decode cX12_barred 41 = .ok (.if_icmp .ge 74, 3) := by decide +kernel
theorem dX12_barred_44 : decode cX12_barred 44 = .ok (.iload_n 3, 1) := by decide +kernel
theorem dX12_barred_45 : decode cX12_barred 45 = .ok (.aload_n 0, 1) := by decide +kernel
theorem dX12_barred_46 : decode cX12_barred 46 = .ok (.getfield 87, 3) := by decide +kernel
theorem dX12_barred_49 : decode cX12_barred 49 = .ok (.iload 4, 2) := by decide +kernel
theorem dX12_barred_51 : decode cX12_barred 51 = .ok (.iaload, 1) := by decide +kernel
theorem dX12_barred_52 : decode cX12_barred 52 = .ok (.iconst (-1), 1) := by decide +kernel
theorem dX12_barred_53 : decode cX12_barred 53 = .ok (.if_icmp .ne 53, 3) := by decide +kernel
theorem dX12_barred_56 : decode cX12_barred 56 = .ok (.aload_n 0, 1) := by decide +kernel
theorem dX12_barred_57 : decode cX12_barred 57 = .ok (.aload_n 0, 1) := by decide +kernel
theorem dX12_barred_58 : decode cX12_barred 58 = .ok (.getfield 84, 3) := by decide +kernel
theorem dX12_barred_61 : decode cX12_barred 61 = .ok (.iload 4, 2) := by decide +kernel
theorem dX12_barred_63 : decode cX12_barred 63 = .ok (.iaload, 1) := by decide +kernel
theorem dX12_barred_64 : decode cX12_barred 64 = .ok (.invokevirtual 410, 3) := by decide +kernel
theorem dX12_barred_67 : decode cX12_barred 67 = .ok (.ifCond .eq 39, 3) := by decide +kernel
theorem dX12_barred_70 : decode cX12_barred 70 = .ok (.aload_n 0, 1) := by decide +kernel
theorem dX12_barred_71 : decode cX12_barred 71 = .ok (.iload_n 2, 1) := by decide +kernel
theorem dX12_barred_72 : decode cX12_barred 72 = .ok (.aload_n 0, 1) := by decide +kernel
theorem dX12_barred_73 : decode cX12_barred 73 = .ok (.getfield 93, 3) := by decide +kernel
theorem dX12_barred_76 : decode cX12_barred 76 = .ok (.iload 4, 2) := by decide +kernel
theorem dX12_barred_78 : decode cX12_barred 78 = .ok (.iaload, 1) := by decide +kernel
theorem dX12_barred_79 : decode cX12_barred 79 = .ok (.aload_n 0, 1) := by decide +kernel
theorem dX12_barred_80 : decode cX12_barred 80 = .ok (.getfield 96, 3) := by decide +kernel
theorem dX12_barred_83 : decode cX12_barred 83 = .ok (.iload 4, 2) := by decide +kernel
theorem dX12_barred_85 : decode cX12_barred 85 = .ok (.iaload, 1) := by decide +kernel
theorem dX12_barred_86 : decode cX12_barred 86 = .ok (.invokevirtual 413, 3) := by decide +kernel
theorem dX12_barred_89 : decode cX12_barred 89 = .ok (.lconst 1, 1) := by decide +kernel
theorem dX12_barred_90 : decode cX12_barred 90 = .ok (.lcmp, 1) := by decide +kernel
theorem dX12_barred_91 : decode cX12_barred 91 = .ok (.ifCond .ne 15, 3) := by decide +kernel
theorem dX12_barred_94 : decode cX12_barred 94 = .ok (.iconst 1, 1) := by decide +kernel
theorem dX12_barred_95 : decode cX12_barred 95 = .ok (.aload_n 0, 1) := by decide +kernel
theorem dX12_barred_96 : decode cX12_barred 96 = .ok (.getfield 84, 3) := by decide +kernel
theorem dX12_barred_99 : decode cX12_barred 99 = .ok (.iload 4, 2) := by decide +kernel
theorem dX12_barred_101 : decode cX12_barred 101 = .ok (.iaload, 1) := by decide +kernel
theorem dX12_barred_102 : decode cX12_barred 102 = .ok (.ishl, 1) := by decide +kernel
theorem dX12_barred_103 : decode cX12_barred 103 = .ok (.goto 4, 3) := by decide +kernel
theorem dX12_barred_106 : decode cX12_barred 106 = .ok (.iconst 0, 1) := by decide +kernel
theorem dX12_barred_107 : decode cX12_barred 107 = .ok (.ior, 1) := by decide +kernel
theorem dX12_barred_108 : decode cX12_barred 108 = .ok (.istore_n 3, 1) := by decide +kernel
theorem dX12_barred_109 : decode cX12_barred 109 = .ok (.iinc 4 1, 3) := by decide +kernel
theorem dX12_barred_112 : decode cX12_barred 112 = .ok (.goto (-84), 3) := by decide +kernel
theorem dX12_barred_115 : decode cX12_barred 115 = .ok (.iload_n 3, 1) := by decide +kernel
theorem dX12_barred_116 : decode cX12_barred 116 = .ok (.ireturn, 1) := by decide +kernel
theorem dX12_farOf_0 : decode cX12_farOf 0 = .ok (.aload_n 0, 1) := by decide +kernel
theorem dX12_farOf_1 : decode cX12_farOf 1 = .ok (.getfield 7, 3) := by decide +kernel
theorem dX12_farOf_4 : decode cX12_farOf 4 = .ok (.bipush 6, 2) := by decide +kernel
theorem dX12_farOf_6 : decode cX12_farOf 6 = .ok (.iaload, 1) := by decide +kernel
theorem dX12_farOf_7 : decode cX12_farOf 7 = .ok (.iconst 1, 1) := by decide +kernel
theorem dX12_farOf_8 : decode cX12_farOf 8 = .ok (.isub, 1) := by decide +kernel
theorem dX12_farOf_9 : decode cX12_farOf 9 = .ok (.istore_n 3, 1) := by decide +kernel
theorem dX12_farOf_10 : decode cX12_farOf 10 = .ok (.iconst 1, 1) := by decide +kernel
theorem dX12_farOf_11 : decode cX12_farOf 11 = .ok (.istore 4, 2) := by decide +kernel
theorem dX12_farOf_13 : decode cX12_farOf 13 = .ok (.bipush 12, 2) := by decide +kernel
theorem dX12_farOf_15 : decode cX12_farOf 15 = .ok (.iload_n 3, 1) := by decide +kernel
theorem dX12_farOf_16 : decode cX12_farOf 16 = .ok (.imul, 1) := by decide +kernel
theorem dX12_farOf_17 : decode cX12_farOf 17 = .ok (.istore 5, 2) := by decide +kernel
theorem dX12_farOf_19 : decode cX12_farOf 19 = .ok (.iload_n 3, 1) := by decide +kernel
theorem dX12_farOf_20 : decode cX12_farOf 20 = .ok (.iconst (-1), 1) := by decide +kernel
theorem dX12_farOf_21 : decode cX12_farOf 21 = .ok (.if_icmp .eq 118, 3) := by decide +kernel
theorem dX12_farOf_24 : decode cX12_farOf 24 = .ok (.iload 5, 2) := by decide +kernel
theorem dX12_farOf_26 : decode cX12_farOf 26 = .ok (.bipush 12, 2) := by decide +kernel
theorem dX12_farOf_28 : decode cX12_farOf 28 = .ok (.iload_n 3, 1) := by decide +kernel
theorem dX12_farOf_29 : decode cX12_farOf 29 = .ok (.imul, 1) := by decide +kernel
theorem dX12_farOf_30 : decode cX12_farOf 30 = .ok (.aload_n 0, 1) := by decide +kernel
theorem dX12_farOf_31 : decode cX12_farOf 31 = .ok (.getfield 81, 3) := by decide +kernel
theorem dX12_farOf_34 : decode cX12_farOf 34 = .ok (.iload_n 3, 1) := by decide +kernel
theorem dX12_farOf_35 : decode cX12_farOf 35 = .ok (.iaload, 1) := by decide +kernel
theorem dX12_farOf_36 : decode cX12_farOf 36 = .ok (.iadd, 1) := by decide +kernel
theorem dX12_farOf_37 : decode cX12_farOf 37 = .ok (.if_icmp .ge 102, 3) := by decide +kernel
theorem dX12_farOf_40 : decode cX12_farOf 40 = .ok (.aload_n 0, 1) := by decide +kernel
theorem dX12_farOf_41 : decode cX12_farOf 41 = .ok (.getfield 87, 3) := by decide +kernel
theorem dX12_farOf_44 : decode cX12_farOf 44 = .ok (.iload 5, 2) := by decide +kernel
theorem dX12_farOf_46 : decode cX12_farOf 46 = .ok (.iaload, 1) := by decide +kernel
theorem dX12_farOf_47 : decode cX12_farOf 47 = .ok (.iconst (-1), 1) := by decide +kernel
theorem dX12_farOf_48 : decode cX12_farOf 48 = .ok (.if_icmp .eq 51, 3) := by decide +kernel
theorem dX12_farOf_51 : decode cX12_farOf 51 = .ok (.aload_n 0, 1) := by decide +kernel
theorem dX12_farOf_52 : decode cX12_farOf 52 = .ok (.getfield 84, 3) := by decide +kernel
theorem dX12_farOf_55 : decode cX12_farOf 55 = .ok (.iload 5, 2) := by decide +kernel
theorem dX12_farOf_57 : decode cX12_farOf 57 = .ok (.iaload, 1) := by decide +kernel
theorem dX12_farOf_58 : decode cX12_farOf 58 = .ok (.iload_n 1, 1) := by decide +kernel
theorem dX12_farOf_59 : decode cX12_farOf 59 = .ok (.if_icmp .ne 14, 3) := by decide +kernel
theorem dX12_farOf_62 : decode cX12_farOf 62 = .ok (.aload_n 0, 1) := by decide +kernel
theorem dX12_farOf_63 : decode cX12_farOf 63 = .ok (.getfield 87, 3) := by decide +kernel
theorem dX12_farOf_66 : decode cX12_farOf 66 = .ok (.iload 5, 2) := by decide +kernel
theorem dX12_farOf_68 : decode cX12_farOf 68 = .ok (.iaload, 1) := by decide +kernel
theorem dX12_farOf_69 : decode cX12_farOf 69 = .ok (.iload_n 2, 1) := by decide +kernel
theorem dX12_farOf_70 : decode cX12_farOf 70 = .ok (.if_icmp .eq 25, 3) := by decide +kernel
theorem dX12_farOf_73 : decode cX12_farOf 73 = .ok (.aload_n 0, 1) := by decide +kernel
theorem dX12_farOf_74 : decode cX12_farOf 74 = .ok (.getfield 84, 3) := by decide +kernel
theorem dX12_farOf_77 : decode cX12_farOf 77 = .ok (.iload 5, 2) := by decide +kernel
theorem dX12_farOf_79 : decode cX12_farOf 79 = .ok (.iaload, 1) := by decide +kernel
theorem dX12_farOf_80 : decode cX12_farOf 80 = .ok (.iload_n 2, 1) := by decide +kernel
theorem dX12_farOf_81 : decode cX12_farOf 81 = .ok (.if_icmp .ne 18, 3) := by decide +kernel
theorem dX12_farOf_84 : decode cX12_farOf 84 = .ok (.aload_n 0, 1) := by decide +kernel
theorem dX12_farOf_85 : decode cX12_farOf 85 = .ok (.getfield 87, 3) := by decide +kernel
theorem dX12_farOf_88 : decode cX12_farOf 88 = .ok (.iload 5, 2) := by decide +kernel
theorem dX12_farOf_90 : decode cX12_farOf 90 = .ok (.iaload, 1) := by decide +kernel
theorem dX12_farOf_91 : decode cX12_farOf 91 = .ok (.iload_n 1, 1) := by decide +kernel
theorem dX12_farOf_92 : decode cX12_farOf 92 = .ok (.if_icmp .ne 7, 3) := by decide +kernel
theorem dX12_farOf_95 : decode cX12_farOf 95 = .ok (.iconst 1, 1) := by decide +kernel
theorem dX12_farOf_96 : decode cX12_farOf 96 = .ok (.goto 4, 3) := by decide +kernel
theorem dX12_farOf_99 : decode cX12_farOf 99 = .ok (.iconst 0, 1) := by decide +kernel
theorem dX12_farOf_100 : decode cX12_farOf 100 = .ok (.istore 6, 2) := by decide +kernel
theorem dX12_farOf_102 : decode cX12_farOf 102 = .ok (.iload 6, 2) := by decide +kernel
theorem dX12_farOf_104 : decode cX12_farOf 104 = .ok (.ifCond .eq 25, 3) := by decide +kernel
theorem dX12_farOf_107 : decode cX12_farOf 107 = .ok (.aload_n 0, 1) := by decide +kernel
theorem dX12_farOf_108 : decode cX12_farOf 108 = .ok (.getfield 90, 3) := by decide +kernel
theorem dX12_farOf_111 : decode cX12_farOf 111 = .ok (.iload 5, 2) := by decide +kernel
theorem dX12_farOf_113 : decode cX12_farOf 113 = .ok (.iaload, 1) := by decide +kernel
theorem dX12_farOf_114 : decode cX12_farOf 114 = .ok (.iload 4, 2) := by decide +kernel
theorem dX12_farOf_116 : decode cX12_farOf 116 = .ok (.if_icmp .le 13, 3) := by decide +kernel
theorem dX12_farOf_119 : decode cX12_farOf 119 = .ok (.aload_n 0, 1) := by decide +kernel
theorem dX12_farOf_120 : decode cX12_farOf 120 = .ok (.getfield 90, 3) := by decide +kernel
theorem dX12_farOf_123 : decode cX12_farOf 123 = .ok (.iload 5, 2) := by decide +kernel
theorem dX12_farOf_125 : decode cX12_farOf 125 = .ok (.iaload, 1) := by decide +kernel
theorem dX12_farOf_126 : decode cX12_farOf 126 = .ok (.goto 5, 3) := by decide +kernel
theorem dX12_farOf_129 : decode cX12_farOf 129 = .ok (.iload 4, 2) := by decide +kernel
theorem dX12_farOf_131 : decode cX12_farOf 131 = .ok (.istore 4, 2) := by decide +kernel
theorem dX12_farOf_133 : decode cX12_farOf 133 = .ok (.iinc 5 1, 3) := by decide +kernel
theorem dX12_farOf_136 : decode cX12_farOf 136 = .ok (.goto (-117), 3) := by decide +kernel
theorem dX12_farOf_139 : decode cX12_farOf 139 = .ok (.iload 4, 2) := by decide +kernel
theorem dX12_farOf_141 : decode cX12_farOf 141 = .ok (.ireturn, 1) := by decide +kernel
theorem dX12_square_0 : decode cX12_square 0 = .ok (.aload_n 0, 1) := by decide +kernel
theorem dX12_square_1 : decode cX12_square 1 = .ok (.iload_n 1, 1) := by decide +kernel
theorem dX12_square_2 : decode cX12_square 2 = .ok (.iload_n 2, 1) := by decide +kernel
theorem dX12_square_3 : decode cX12_square 3 = .ok (.invokevirtual 165, 3) := by decide +kernel
theorem dX12_square_6 : decode cX12_square 6 = .ok (.ifCond .eq 15, 3) := by decide +kernel
theorem dX12_square_9 : decode cX12_square 9 = .ok (.iload_n 3, 1) := by decide +kernel
theorem dX12_square_10 : decode cX12_square 10 = .ok (.i2l, 1) := by decide +kernel
theorem dX12_square_11 : decode cX12_square 11 = .ok (.lconst 0, 1) := by decide +kernel
theorem dX12_square_12 : decode cX12_square 12 = .ok (.ldc2_w 417, 3) := by decide +kernel
theorem dX12_square_15 : decode cX12_square 15 = .ok (.invokestatic 161, 3) := by decide +kernel
theorem dX12_square_18 : decode cX12_square 18 = .ok (.ifCond .ne 5, 3) := by decide +kernel
theorem dX12_square_21 : decode cX12_square 21 = .ok (.iconst (-1), 1) := by decide +kernel
theorem dX12_square_22 : decode cX12_square 22 = .ok (.ireturn, 1) := by decide +kernel
theorem dX12_square_23 : decode cX12_square 23 = .ok (.bipush 6, 2) := by decide +kernel
theorem dX12_square_25 : decode cX12_square 25 = .ok (.iload_n 2, 1) := by decide +kernel
theorem dX12_square_26 : decode cX12_square 26 = .ok (.imul, 1) := by decide +kernel
theorem dX12_square_27 : decode cX12_square 27 = .ok (.iload_n 1, 1) := by decide +kernel
theorem dX12_square_28 : decode cX12_square 28 = .ok (.iadd, 1) := by decide +kernel
theorem dX12_square_29 : decode cX12_square 29 = .ok (.istore 4, 2) := by decide +kernel
theorem dX12_square_31 : decode cX12_square 31 = .ok (.iload_n 3, 1) := by decide +kernel
theorem dX12_square_32 : decode cX12_square 32 = .ok (.tableswitch 79 0 4 #[36, 51, 58, 65, 72], 36) := by decide +kernel
theorem dX12_square_68 : decode cX12_square 68 = .ok (.aload_n 0, 1) := by decide +kernel
theorem dX12_square_69 : decode cX12_square 69 = .ok (.iload 4, 2) := by decide +kernel
theorem dX12_square_71 : decode cX12_square 71 = .ok (.invokevirtual 183, 3) := by decide +kernel
theorem dX12_square_74 : decode cX12_square 74 = .ok (.ifCond .eq 7, 3) := by decide +kernel
theorem dX12_square_77 : decode cX12_square 77 = .ok (.iconst 1, 1) := by decide +kernel
theorem dX12_square_78 : decode cX12_square 78 = .ok (.goto 4, 3) := by decide +kernel
theorem dX12_square_81 : decode cX12_square 81 = .ok (.iconst 0, 1) := by decide +kernel
theorem dX12_square_82 : decode cX12_square 82 = .ok (.ireturn, 1) := by decide +kernel
theorem dX12_square_83 : decode cX12_square 83 = .ok (.aload_n 0, 1) := by decide +kernel
theorem dX12_square_84 : decode cX12_square 84 = .ok (.iload 4, 2) := by decide +kernel
theorem dX12_square_86 : decode cX12_square 86 = .ok (.invokevirtual 169, 3) := by decide +kernel
theorem dX12_square_89 : decode cX12_square 89 = .ok (.ireturn, 1) := by decide +kernel
theorem dX12_square_90 : decode cX12_square 90 = .ok (.aload_n 0, 1) := by decide +kernel
theorem dX12_square_91 : decode cX12_square 91 = .ok (.iload 4, 2) := by decide +kernel
theorem dX12_square_93 : decode cX12_square 93 = .ok (.invokevirtual 401, 3) := by decide +kernel
theorem dX12_square_96 : decode cX12_square 96 = .ok (.ireturn, 1) := by decide +kernel
theorem dX12_square_97 : decode cX12_square 97 = .ok (.aload_n 0, 1) := by decide +kernel
theorem dX12_square_98 : decode cX12_square 98 = .ok (.iload 4, 2) := by decide +kernel
theorem dX12_square_100 : decode cX12_square 100 = .ok (.invokevirtual 404, 3) := by decide +kernel
theorem dX12_square_103 : decode cX12_square 103 = .ok (.ireturn, 1) := by decide +kernel
theorem dX12_square_104 : decode cX12_square 104 = .ok (.aload_n 0, 1) := by decide +kernel
theorem dX12_square_105 : decode cX12_square 105 = .ok (.iload 4, 2) := by decide +kernel
theorem dX12_square_107 : decode cX12_square 107 = .ok (.invokevirtual 398, 3) := by decide +kernel
theorem dX12_square_110 : decode cX12_square 110 = .ok (.ireturn, 1) := by decide +kernel
theorem dX12_square_111 : decode cX12_square 111 = .ok (.aload_n 0, 1) := by decide +kernel
theorem dX12_square_112 : decode cX12_square 112 = .ok (.iload 4, 2) := by decide +kernel
theorem dX12_square_114 : decode cX12_square 114 = .ok (.invokevirtual 419, 3) := by decide +kernel
theorem dX12_square_117 : decode cX12_square 117 = .ok (.ireturn, 1) := by decide +kernel
theorem dX12_note_0 : decode cX12_note 0 = .ok (.aload_n 0, 1) := by decide +kernel
theorem dX12_note_1 : decode cX12_note 1 = .ok (.getfield 7, 3) := by decide +kernel
theorem dX12_note_4 : decode cX12_note 4 = .ok (.iconst 5, 1) := by decide +kernel
theorem dX12_note_5 : decode cX12_note 5 = .ok (.iaload, 1) := by decide +kernel
theorem dX12_note_6 : decode cX12_note 6 = .ok (.istore 6, 2) := by decide +kernel
theorem dX12_note_8 : decode cX12_note 8 = .ok (.aload_n 0, 1) := by decide +kernel
theorem dX12_note_9 : decode cX12_note 9 = .ok (.invokevirtual 203, 3) := by decide +kernel
theorem dX12_note_12 : decode cX12_note 12 = .ok (.ifCond .eq 82, 3) := by decide +kernel
theorem dX12_note_15 : decode cX12_note 15 = .ok (.iload 6, 2) := by decide +kernel
theorem dX12_note_17 : decode cX12_note 17 = .ok (.bipush 10, 2) := by decide +kernel
theorem dX12_note_19 : decode cX12_note 19 = .ok (.if_icmp .eq 75, 3) := by decide +kernel
theorem dX12_note_22 : decode cX12_note 22 = .ok (.iload_n 1, 1) := by decide +kernel
theorem dX12_note_23 : decode cX12_note 23 = .ok (.i2l, 1) := by decide +kernel
theorem dX12_note_24 : decode cX12_note 24 = .ok (.lconst 0, 1) := by decide +kernel
theorem dX12_note_25 : decode cX12_note 25 = .ok (.ldc2_w 417, 3) := by decide +kernel
theorem dX12_note_28 : decode cX12_note 28 = .ok (.invokestatic 161, 3) := by decide +kernel
theorem dX12_note_31 : decode cX12_note 31 = .ok (.ifCond .eq 63, 3) := by decide +kernel
theorem dX12_note_34 : decode cX12_note 34 = .ok (.iload_n 2, 1) := by decide +kernel
theorem dX12_note_35 : decode cX12_note 35 = .ok (.i2l, 1) := by decide +kernel
theorem dX12_note_36 : decode cX12_note 36 = .ok (.lconst 0, 1) := by decide +kernel
theorem dX12_note_37 : decode cX12_note 37 = .ok (.lconst 1, 1) := by decide +kernel
theorem dX12_note_38 : decode cX12_note 38 = .ok (.invokestatic 161, 3) := by decide +kernel
theorem dX12_note_41 : decode cX12_note 41 = .ok (.ifCond .eq 53, 3) := by decide +kernel
theorem dX12_note_44 : decode cX12_note 44 = .ok (.iload_n 3, 1) := by decide +kernel
theorem dX12_note_45 : decode cX12_note 45 = .ok (.i2l, 1) := by decide +kernel
theorem dX12_note_46 : decode cX12_note 46 = .ok (.lconst 0, 1) := by decide +kernel
theorem dX12_note_47 : decode cX12_note 47 = .ok (.aload_n 0, 1) := by decide +kernel
theorem dX12_note_48 : decode cX12_note 48 = .ok (.getfield 7, 3) := by decide +kernel
theorem dX12_note_51 : decode cX12_note 51 = .ok (.iload_n 2, 1) := by decide +kernel
theorem dX12_note_52 : decode cX12_note 52 = .ok (.ifCond .ne 7, 3) := by decide +kernel
theorem dX12_note_55 : decode cX12_note 55 = .ok (.iconst 2, 1) := by decide +kernel
theorem dX12_note_56 : decode cX12_note 56 = .ok (.goto 4, 3) := by decide +kernel
theorem dX12_note_59 : decode cX12_note 59 = .ok (.iconst 3, 1) := by decide +kernel
theorem dX12_note_60 : decode cX12_note 60 = .ok (.iaload, 1) := by decide +kernel
theorem dX12_note_61 : decode cX12_note 61 = .ok (.iconst 1, 1) := by decide +kernel
theorem dX12_note_62 : decode cX12_note 62 = .ok (.isub, 1) := by decide +kernel
theorem dX12_note_63 : decode cX12_note 63 = .ok (.i2l, 1) := by decide +kernel
theorem dX12_note_64 : decode cX12_note 64 = .ok (.invokestatic 161, 3) := by decide +kernel
theorem dX12_note_67 : decode cX12_note 67 = .ok (.ifCond .eq 27, 3) := by decide +kernel
theorem dX12_note_70 : decode cX12_note 70 = .ok (.aload_n 0, 1) := by decide +kernel
theorem dX12_note_71 : decode cX12_note 71 = .ok (.iload 4, 2) := by decide +kernel
theorem dX12_note_73 : decode cX12_note 73 = .ok (.invokevirtual 410, 3) := by decide +kernel
theorem dX12_note_76 : decode cX12_note 76 = .ok (.ifCond .eq 18, 3) := by decide +kernel
theorem dX12_note_79 : decode cX12_note 79 = .ok (.iload 5, 2) := by decide +kernel
theorem dX12_note_81 : decode cX12_note 81 = .ok (.i2l, 1) := by decide +kernel
theorem dX12_note_82 : decode cX12_note 82 = .ok (.ldc2_w 201, 3) := by decide +kernel
theorem dX12_note_85 : decode cX12_note 85 = .ok (.ldc2_w 422, 3) := by decide +kernel
theorem dX12_note_88 : decode cX12_note 88 = .ok (.invokestatic 161, 3) := by decide +kernel
theorem dX12_note_91 : decode cX12_note 91 = .ok (.ifCond .ne 5, 3) := by decide +kernel
theorem dX12_note_94 : decode cX12_note 94 = .ok (.iconst (-1), 1) := by decide +kernel
theorem dX12_note_95 : decode cX12_note 95 = .ok (.ireturn, 1) := by decide +kernel
theorem dX12_note_96 : decode cX12_note 96 = .ok (.aload_n 0, 1) := by decide +kernel
theorem dX12_note_97 : decode cX12_note 97 = .ok (.getfield 31, 3) := by decide +kernel
theorem dX12_note_100 : decode cX12_note 100 = .ok (.iload 6, 2) := by decide +kernel
theorem dX12_note_102 : decode cX12_note 102 = .ok (.iload_n 1, 1) := by decide +kernel
theorem dX12_note_103 : decode cX12_note 103 = .ok (.iastore, 1) := by decide +kernel
theorem dX12_note_104 : decode cX12_note 104 = .ok (.aload_n 0, 1) := by decide +kernel
theorem dX12_note_105 : decode cX12_note 105 = .ok (.getfield 34, 3) := by decide +kernel
theorem dX12_note_108 : decode cX12_note 108 = .ok (.iload 6, 2) := by decide +kernel
theorem dX12_note_110 : decode cX12_note 110 = .ok (.iload_n 2, 1) := by decide +kernel
theorem dX12_note_111 : decode cX12_note 111 = .ok (.iastore, 1) := by decide +kernel
theorem dX12_note_112 : decode cX12_note 112 = .ok (.aload_n 0, 1) := by decide +kernel
theorem dX12_note_113 : decode cX12_note 113 = .ok (.getfield 37, 3) := by decide +kernel
theorem dX12_note_116 : decode cX12_note 116 = .ok (.iload 6, 2) := by decide +kernel
theorem dX12_note_118 : decode cX12_note 118 = .ok (.iload_n 3, 1) := by decide +kernel
theorem dX12_note_119 : decode cX12_note 119 = .ok (.iastore, 1) := by decide +kernel
theorem dX12_note_120 : decode cX12_note 120 = .ok (.aload_n 0, 1) := by decide +kernel
theorem dX12_note_121 : decode cX12_note 121 = .ok (.getfield 40, 3) := by decide +kernel
theorem dX12_note_124 : decode cX12_note 124 = .ok (.iload 6, 2) := by decide +kernel
theorem dX12_note_126 : decode cX12_note 126 = .ok (.iload 4, 2) := by decide +kernel
theorem dX12_note_128 : decode cX12_note 128 = .ok (.iastore, 1) := by decide +kernel
theorem dX12_note_129 : decode cX12_note 129 = .ok (.aload_n 0, 1) := by decide +kernel
theorem dX12_note_130 : decode cX12_note 130 = .ok (.getfield 43, 3) := by decide +kernel
theorem dX12_note_133 : decode cX12_note 133 = .ok (.iload 6, 2) := by decide +kernel
theorem dX12_note_135 : decode cX12_note 135 = .ok (.iload 5, 2) := by decide +kernel
theorem dX12_note_137 : decode cX12_note 137 = .ok (.iastore, 1) := by decide +kernel
theorem dX12_note_138 : decode cX12_note 138 = .ok (.aload_n 0, 1) := by decide +kernel
theorem dX12_note_139 : decode cX12_note 139 = .ok (.getfield 7, 3) := by decide +kernel
theorem dX12_note_142 : decode cX12_note 142 = .ok (.iconst 5, 1) := by decide +kernel
theorem dX12_note_143 : decode cX12_note 143 = .ok (.dup2, 1) := by decide +kernel
theorem dX12_note_144 : decode cX12_note 144 = .ok (.iaload, 1) := by decide +kernel
theorem dX12_note_145 : decode cX12_note 145 = .ok (.iconst 1, 1) := by decide +kernel
theorem dX12_note_146 : decode cX12_note 146 = .ok (.iadd, 1) := by decide +kernel
theorem dX12_note_147 : decode cX12_note 147 = .ok (.iastore, 1) := by decide +kernel
theorem dX12_note_148 : decode cX12_note 148 = .ok (.iload 6, 2) := by decide +kernel
theorem dX12_note_150 : decode cX12_note 150 = .ok (.ireturn, 1) := by decide +kernel
theorem dX12_notes_0 : decode cX12_notes 0 = .ok (.iload_n 1, 1) := by decide +kernel
theorem dX12_notes_1 : decode cX12_notes 1 = .ok (.i2l, 1) := by decide +kernel
theorem dX12_notes_2 : decode cX12_notes 2 = .ok (.lconst 0, 1) := by decide +kernel
theorem dX12_notes_3 : decode cX12_notes 3 = .ok (.aload_n 0, 1) := by decide +kernel
theorem dX12_notes_4 : decode cX12_notes 4 = .ok (.getfield 7, 3) := by decide +kernel
theorem dX12_notes_7 : decode cX12_notes 7 = .ok (.iconst 5, 1) := by decide +kernel
theorem dX12_notes_8 : decode cX12_notes 8 = .ok (.iaload, 1) := by decide +kernel
theorem dX12_notes_9 : decode cX12_notes 9 = .ok (.iconst 1, 1) := by decide +kernel
theorem dX12_notes_10 : decode cX12_notes 10 = .ok (.isub, 1) := by decide +kernel
theorem dX12_notes_11 : decode cX12_notes 11 = .ok (.i2l, 1) := by decide +kernel
theorem dX12_notes_12 : decode cX12_notes 12 = .ok (.invokestatic 161, 3) := by decide +kernel
theorem dX12_notes_15 : decode cX12_notes 15 = .ok (.ifCond .ne 6, 3) := by decide +kernel
theorem dX12_notes_18 : decode cX12_notes 18 = .ok (.bipush (-2), 2) := by decide +kernel
theorem dX12_notes_20 : decode cX12_notes 20 = .ok (.ireturn, 1) := by decide +kernel
theorem dX12_notes_21 : decode cX12_notes 21 = .ok (.iload_n 2, 1) := by decide +kernel
theorem dX12_notes_22 : decode cX12_notes 22 = .ok (.tableswitch 69 0 4 #[34, 41, 48, 55, 62], 34) := by decide +kernel
theorem dX12_notes_56 : decode cX12_notes 56 = .ok (.aload_n 0, 1) := by decide +kernel
theorem dX12_notes_57 : decode cX12_notes 57 = .ok (.getfield 31, 3) := by decide +kernel
theorem dX12_notes_60 : decode cX12_notes 60 = .ok (.iload_n 1, 1) := by decide +kernel
theorem dX12_notes_61 : decode cX12_notes 61 = .ok (.iaload, 1) := by decide +kernel
theorem dX12_notes_62 : decode cX12_notes 62 = .ok (.ireturn, 1) := by decide +kernel
theorem dX12_notes_63 : decode cX12_notes 63 = .ok (.aload_n 0, 1) := by decide +kernel
theorem dX12_notes_64 : decode cX12_notes 64 = .ok (.getfield 34, 3) := by decide +kernel
theorem dX12_notes_67 : decode cX12_notes 67 = .ok (.iload_n 1, 1) := by decide +kernel
theorem dX12_notes_68 : decode cX12_notes 68 = .ok (.iaload, 1) := by decide +kernel
theorem dX12_notes_69 : decode cX12_notes 69 = .ok (.ireturn, 1) := by decide +kernel
theorem dX12_notes_70 : decode cX12_notes 70 = .ok (.aload_n 0, 1) := by decide +kernel
theorem dX12_notes_71 : decode cX12_notes 71 = .ok (.getfield 37, 3) := by decide +kernel
theorem dX12_notes_74 : decode cX12_notes 74 = .ok (.iload_n 1, 1) := by decide +kernel
theorem dX12_notes_75 : decode cX12_notes 75 = .ok (.iaload, 1) := by decide +kernel
theorem dX12_notes_76 : decode cX12_notes 76 = .ok (.ireturn, 1) := by decide +kernel
theorem dX12_notes_77 : decode cX12_notes 77 = .ok (.aload_n 0, 1) := by decide +kernel
theorem dX12_notes_78 : decode cX12_notes 78 = .ok (.getfield 40, 3) := by decide +kernel
theorem dX12_notes_81 : decode cX12_notes 81 = .ok (.iload_n 1, 1) := by decide +kernel
theorem dX12_notes_82 : decode cX12_notes 82 = .ok (.iaload, 1) := by decide +kernel
theorem dX12_notes_83 : decode cX12_notes 83 = .ok (.ireturn, 1) := by decide +kernel
theorem dX12_notes_84 : decode cX12_notes 84 = .ok (.aload_n 0, 1) := by decide +kernel
theorem dX12_notes_85 : decode cX12_notes 85 = .ok (.getfield 43, 3) := by decide +kernel
theorem dX12_notes_88 : decode cX12_notes 88 = .ok (.iload_n 1, 1) := by decide +kernel
theorem dX12_notes_89 : decode cX12_notes 89 = .ok (.iaload, 1) := by decide +kernel
theorem dX12_notes_90 : decode cX12_notes 90 = .ok (.ireturn, 1) := by decide +kernel
theorem dX12_notes_91 : decode cX12_notes 91 = .ok (.bipush (-2), 2) := by decide +kernel
theorem dX12_notes_93 : decode cX12_notes 93 = .ok (.ireturn, 1) := by decide +kernel
theorem dX12_beginsLayings_0 : decode cX12_beginsLayings 0 = .ok (.aload_n 0, 1) := by decide +kernel
theorem dX12_beginsLayings_1 : decode cX12_beginsLayings 1 = .ok (.iconst 0, 1) := by decide +kernel
theorem dX12_beginsLayings_2 : decode cX12_beginsLayings 2 = .ok (.putfield 424, 3) := by decide +kernel
theorem dX12_beginsLayings_5 : decode cX12_beginsLayings 5 = .ok (.iconst 0, 1) := by decide +kernel
theorem dX12_beginsLayings_6 : decode cX12_beginsLayings 6 = .ok (.istore_n 1, 1) := by decide +kernel
theorem dX12_beginsLayings_7 : decode cX12_beginsLayings 7 = .ok (.iload_n 1, 1) := by decide +kernel
theorem dX12_beginsLayings_8 : decode cX12_beginsLayings 8 = .ok (.aload_n 0, 1) := by decide +kernel
theorem dX12_beginsLayings_9 : decode cX12_beginsLayings 9 = .ok (.getfield 7, 3) := by decide +kernel
theorem dX12_beginsLayings_12 : decode cX12_beginsLayings 12 = .ok (.iconst 4, 1) := by decide +kernel
theorem dX12_beginsLayings_13 : decode cX12_beginsLayings 13 = .ok (.iaload, 1) := by decide +kernel
theorem dX12_beginsLayings_14 : decode cX12_beginsLayings 14 = .ok (.if_icmp .ge 54, 3) := by decide +kernel
theorem dX12_beginsLayings_17 : decode cX12_beginsLayings 17 = .ok (.aload_n 0, 1) := by decide +kernel
theorem dX12_beginsLayings_18 : decode cX12_beginsLayings 18 = .ok (.getfield 118, 3) := by decide +kernel
theorem dX12_beginsLayings_21 : decode cX12_beginsLayings 21 = .ok (.iload_n 1, 1) := by decide +kernel
theorem dX12_beginsLayings_22 : decode cX12_beginsLayings 22 = .ok (.lconst 0, 1) := by decide +kernel
theorem dX12_beginsLayings_23 : decode cX12_beginsLayings 23 = .ok (.lastore, 1) := by decide +kernel
theorem dX12_beginsLayings_24 : decode cX12_beginsLayings 24 = .ok (.iconst 0, 1) := by decide +kernel
theorem dX12_beginsLayings_25 : decode cX12_beginsLayings 25 = .ok (.istore_n 2, 1) := by decide +kernel
theorem dX12_beginsLayings_26 : decode cX12_beginsLayings 26 = .ok (.iload_n 2, 1) := by decide +kernel
theorem dX12_beginsLayings_27 : decode cX12_beginsLayings 27 = .ok (.aload_n 0, 1) := by decide +kernel
theorem dX12_beginsLayings_28 : decode cX12_beginsLayings 28 = .ok (.getfield 28, 3) := by decide +kernel
theorem dX12_beginsLayings_31 : decode cX12_beginsLayings 31 = .ok (.iload_n 1, 1) := by decide +kernel
theorem dX12_beginsLayings_32 : decode cX12_beginsLayings 32 = .ok (.iaload, 1) := by decide +kernel
theorem dX12_beginsLayings_33 : decode cX12_beginsLayings 33 = .ok (.if_icmp .ge 29, 3) := by decide +kernel
theorem dX12_beginsLayings_36 : decode cX12_beginsLayings 36 = .ok (.aload_n 0, 1) := by decide +kernel
theorem dX12_beginsLayings_37 : decode cX12_beginsLayings 37 = .ok (.getfield 112, 3) := by decide +kernel
theorem dX12_beginsLayings_40 : decode cX12_beginsLayings 40 = .ok (.aload_n 0, 1) := by decide +kernel
theorem dX12_beginsLayings_41 : decode cX12_beginsLayings 41 = .ok (.getfield 424, 3) := by decide +kernel
theorem dX12_beginsLayings_44 : decode cX12_beginsLayings 44 = .ok (.iload_n 1, 1) := by decide +kernel
theorem dX12_beginsLayings_45 : decode cX12_beginsLayings 45 = .ok (.iastore, 1) := by decide +kernel
theorem dX12_beginsLayings_46 : decode cX12_beginsLayings 46 = .ok (.aload_n 0, 1) := by decide +kernel
theorem dX12_beginsLayings_47 : decode cX12_beginsLayings 47 = .ok (.dup, 1) := by decide +kernel
theorem dX12_beginsLayings_48 : decode cX12_beginsLayings 48 = .ok (.getfield 424, 3) := by decide +kernel
theorem dX12_beginsLayings_51 : decode cX12_beginsLayings 51 = .ok (.iconst 1, 1) := by decide +kernel
theorem dX12_beginsLayings_52 : decode cX12_beginsLayings 52 = .ok (.iadd, 1) := by decide +kernel
theorem dX12_beginsLayings_53 : decode cX12_beginsLayings 53 = .ok (.putfield 424, 3) := by decide +kernel
theorem dX12_beginsLayings_56 : decode cX12_beginsLayings 56 = .ok (.iinc 2 1, 3) := by decide +kernel
theorem dX12_beginsLayings_59 : decode cX12_beginsLayings 59 = .ok (.goto (-33), 3) := by decide +kernel
theorem dX12_beginsLayings_62 : decode cX12_beginsLayings 62 = .ok (.iinc 1 1, 3) := by decide +kernel
theorem dX12_beginsLayings_65 : decode cX12_beginsLayings 65 = .ok (.goto (-58), 3) := by decide +kernel
theorem dX12_beginsLayings_68 : decode cX12_beginsLayings 68 = .ok (.iconst 0, 1) := by decide +kernel
theorem dX12_beginsLayings_69 : decode cX12_beginsLayings 69 = .ok (.istore_n 1, 1) := by decide +kernel
theorem dX12_beginsLayings_70 : decode cX12_beginsLayings 70 = .ok (.iload_n 1, 1) := by decide +kernel
theorem dX12_beginsLayings_71 : decode cX12_beginsLayings 71 = .ok (.bipush 36, 2) := by decide +kernel
theorem dX12_beginsLayings_73 : decode cX12_beginsLayings 73 = .ok (.if_icmp .ge 86, 3) := by decide +kernel
theorem dX12_beginsLayings_76 : decode cX12_beginsLayings 76 = .ok (.aload_n 0, 1) := by decide +kernel
theorem dX12_beginsLayings_77 : decode cX12_beginsLayings 77 = .ok (.iload_n 1, 1) := by decide +kernel
theorem dX12_beginsLayings_78 : decode cX12_beginsLayings 78 = .ok (.invokevirtual 187, 3) := by decide +kernel
theorem dX12_beginsLayings_81 : decode cX12_beginsLayings 81 = .ok (.ifCond .eq 11, 3) := by decide +kernel
theorem dX12_beginsLayings_84 : decode cX12_beginsLayings 84 = .ok (.aload_n 0, 1) := by decide +kernel
theorem dX12_beginsLayings_85 : decode cX12_beginsLayings 85 = .ok (.iload_n 1, 1) := by decide +kernel
theorem dX12_beginsLayings_86 : decode cX12_beginsLayings 86 = .ok (.invokevirtual 419, 3) := by decide +kernel
theorem dX12_beginsLayings_89 : decode cX12_beginsLayings 89 = .ok (.goto 4, 3) := by decide +kernel
theorem dX12_beginsLayings_92 : decode cX12_beginsLayings 92 = .ok (.iconst 0, 1) := by decide +kernel
theorem dX12_beginsLayings_93 : decode cX12_beginsLayings 93 = .ok (.istore_n 2, 1) := by decide +kernel
theorem dX12_beginsLayings_94 : decode cX12_beginsLayings 94 = .ok (.iconst 0, 1) := by decide +kernel
theorem dX12_beginsLayings_95 : decode cX12_beginsLayings 95 = .ok (.istore_n 3, 1) := by decide +kernel
theorem dX12_beginsLayings_96 : decode cX12_beginsLayings 96 = .ok (.iload_n 3, 1) := by decide +kernel
theorem dX12_beginsLayings_97 : decode cX12_beginsLayings 97 = .ok (.aload_n 0, 1) := by decide +kernel
theorem dX12_beginsLayings_98 : decode cX12_beginsLayings 98 = .ok (.getfield 7, 3) := by decide +kernel
theorem dX12_beginsLayings_101 : decode cX12_beginsLayings 101 = .ok (.iconst 4, 1) := by decide +kernel
theorem dX12_beginsLayings_102 : decode cX12_beginsLayings 102 = .ok (.iaload, 1) := by decide +kernel
theorem dX12_beginsLayings_103 : decode cX12_beginsLayings 103 = .ok (.if_icmp .ge 50, 3) := by decide +kernel
theorem dX12_beginsLayings_106 : decode cX12_beginsLayings 106 = .ok (.aload_n 0, 1) := by decide +kernel
theorem dX12_beginsLayings_107 : decode cX12_beginsLayings 107 = .ok (.getfield 118, 3) := by decide +kernel
theorem dX12_beginsLayings_110 : decode cX12_beginsLayings 110 = .ok (.iload_n 3, 1) := by decide +kernel
theorem dX12_beginsLayings_111 : decode cX12_beginsLayings 111 = .ok (.dup2, 1) := by decide +kernel
theorem dX12_beginsLayings_112 : decode cX12_beginsLayings 112 = .ok (.laload, 1) := by decide +kernel
theorem dX12_beginsLayings_113 : decode cX12_beginsLayings 113 = .ok (.aload_n 0, 1) := by decide +kernel
theorem dX12_beginsLayings_114 : decode cX12_beginsLayings 114 = .ok (.iload_n 1, 1) := by decide +kernel
theorem dX12_beginsLayings_115 : decode cX12_beginsLayings 115 = .ok (.invokevirtual 187, 3) := by decide +kernel
theorem dX12_beginsLayings_118 : decode cX12_beginsLayings 118 = .ok (.ifCond .eq 26, 3) := by decide +kernel
theorem dX12_beginsLayings_121 : decode cX12_beginsLayings 121 = .ok (.aload_n 0, 1) := by decide +kernel
theorem dX12_beginsLayings_122 : decode cX12_beginsLayings 122 = .ok (.iload_n 1, 1) := by decide +kernel
theorem dX12_beginsLayings_123 : decode cX12_beginsLayings 123 = .ok (.invokevirtual 183, 3) := by decide +kernel
theorem dX12_beginsLayings_126 : decode cX12_beginsLayings 126 = .ok (.ifCond .ne 18, 3) := by decide +kernel
theorem dX12_beginsLayings_129 : decode cX12_beginsLayings 129 = .ok (.iload_n 2, 1) := by decide +kernel
theorem dX12_beginsLayings_130 : decode cX12_beginsLayings 130 = .ok (.i2l, 1) := by decide +kernel
theorem dX12_beginsLayings_131 : decode cX12_beginsLayings 131 = .ok (.iload_n 3, 1) := by decide +kernel
theorem dX12_beginsLayings_132 : decode cX12_beginsLayings 132 = .ok (.invokestatic 211, 3) := by decide +kernel
theorem dX12_beginsLayings_135 : decode cX12_beginsLayings 135 = .ok (.ifCond .ne 9, 3) := by decide +kernel
theorem dX12_beginsLayings_138 : decode cX12_beginsLayings 138 = .ok (.lconst 1, 1) := by decide +kernel
theorem dX12_beginsLayings_139 : decode cX12_beginsLayings 139 = .ok (.iload_n 1, 1) := by decide +kernel
theorem dX12_beginsLayings_140 : decode cX12_beginsLayings 140 = .ok (.lshl, 1) := by decide +kernel
theorem dX12_beginsLayings_141 : decode cX12_beginsLayings 141 = .ok (.goto 4, 3) := by decide +kernel
theorem dX12_beginsLayings_144 : decode cX12_beginsLayings 144 = .ok (.lconst 0, 1) := by decide +kernel
theorem dX12_beginsLayings_145 : decode cX12_beginsLayings 145 = .ok (.lor, 1) := by decide +kernel
theorem dX12_beginsLayings_146 : decode cX12_beginsLayings 146 = .ok (.lastore, 1) := by decide +kernel
theorem dX12_beginsLayings_147 : decode cX12_beginsLayings 147 = .ok (.iinc 3 1, 3) := by decide +kernel
theorem dX12_beginsLayings_150 : decode cX12_beginsLayings 150 = .ok (.goto (-54), 3) := by decide +kernel
theorem dX12_beginsLayings_153 : decode cX12_beginsLayings 153 = .ok (.iinc 1 1, 3) := by decide +kernel
theorem dX12_beginsLayings_156 : decode cX12_beginsLayings 156 = .ok (.goto (-86), 3) := by decide +kernel
theorem dX12_beginsLayings_159 : decode cX12_beginsLayings 159 = .ok (.iconst 0, 1) := by decide +kernel
theorem dX12_beginsLayings_160 : decode cX12_beginsLayings 160 = .ok (.istore_n 1, 1) := by decide +kernel
theorem dX12_beginsLayings_161 : decode cX12_beginsLayings 161 = .ok (.iload_n 1, 1) := by decide +kernel
theorem dX12_beginsLayings_162 : decode cX12_beginsLayings 162 = .ok (.aload_n 0, 1) := by decide +kernel
theorem dX12_beginsLayings_163 : decode cX12_beginsLayings 163 = .ok (.getfield 424, 3) := by decide +kernel
theorem dX12_beginsLayings_166 : decode cX12_beginsLayings 166 = .ok (.if_icmp .ge 51, 3) := by decide +kernel
theorem dX12_beginsLayings_169 : decode cX12_beginsLayings 169 = .ok (.iconst 0, 1) := by decide +kernel
theorem dX12_beginsLayings_170 : decode cX12_beginsLayings 170 = .ok (.istore_n 2, 1) := by decide +kernel
theorem dX12_beginsLayings_171 : decode cX12_beginsLayings 171 = .ok (.iload_n 2, 1) := by decide +kernel
theorem dX12_beginsLayings_172 : decode cX12_beginsLayings 172 = .ok (.aload_n 0, 1) := by decide +kernel
theorem dX12_beginsLayings_173 : decode cX12_beginsLayings 173 = .ok (.getfield 424, 3) := by decide +kernel
theorem dX12_beginsLayings_176 : decode cX12_beginsLayings 176 = .ok (.if_icmp .ge 35, 3) := by decide +kernel
theorem dX12_beginsLayings_179 : decode cX12_beginsLayings 179 = .ok (.aload_n 0, 1) := by decide +kernel
theorem dX12_beginsLayings_180 : decode cX12_beginsLayings 180 = .ok (.getfield 115, 3) := by decide +kernel
theorem dX12_beginsLayings_183 : decode cX12_beginsLayings 183 = .ok (.iconst 4, 1) := by decide +kernel
theorem dX12_beginsLayings_184 : decode cX12_beginsLayings 184 = .ok (.iload_n 1, 1) := by decide +kernel
theorem dX12_beginsLayings_185 : decode cX12_beginsLayings 185 = .ok (.imul, 1) := by decide +kernel
theorem dX12_beginsLayings_186 : decode cX12_beginsLayings 186 = .ok (.iload_n 2, 1) := by decide +kernel
theorem dX12_beginsLayings_187 : decode cX12_beginsLayings 187 = .ok (.iadd, 1) := by decide +kernel
theorem dX12_beginsLayings_188 : decode cX12_beginsLayings 188 = .ok (.aload_n 0, 1) := by decide +kernel
theorem dX12_beginsLayings_189 : decode cX12_beginsLayings 189 = .ok (.aload_n 0, 1) := by decide +kernel
theorem dX12_beginsLayings_190 : decode cX12_beginsLayings 190 = .ok (.getfield 112, 3) := by decide +kernel
theorem dX12_beginsLayings_193 : decode cX12_beginsLayings 193 = .ok (.iload_n 1, 1) := by decide +kernel
theorem dX12_beginsLayings_194 : decode cX12_beginsLayings 194 = .ok (.iaload, 1) := by decide +kernel
theorem dX12_beginsLayings_195 : decode cX12_beginsLayings 195 = .ok (.aload_n 0, 1) := by decide +kernel
theorem dX12_beginsLayings_196 : decode cX12_beginsLayings 196 = .ok (.getfield 112, 3) := by decide +kernel
theorem dX12_beginsLayings_199 : decode cX12_beginsLayings 199 = .ok (.iload_n 2, 1) := by decide +kernel
theorem dX12_beginsLayings_200 : decode cX12_beginsLayings 200 = .ok (.iaload, 1) := by decide +kernel
theorem dX12_beginsLayings_201 : decode cX12_beginsLayings 201 = .ok (.invokevirtual 427, 3) := by decide +kernel
theorem dX12_beginsLayings_204 : decode cX12_beginsLayings 204 = .ok (.iastore, 1) := by decide +kernel
theorem dX12_beginsLayings_205 : decode cX12_beginsLayings 205 = .ok (.iinc 2 1, 3) := by decide +kernel
theorem dX12_beginsLayings_208 : decode cX12_beginsLayings 208 = .ok (.goto (-37), 3) := by decide +kernel
theorem dX12_beginsLayings_211 : decode cX12_beginsLayings 211 = .ok (.iinc 1 1, 3) := by decide +kernel
theorem dX12_beginsLayings_214 : decode cX12_beginsLayings 214 = .ok (.goto (-53), 3) := by decide +kernel
theorem dX12_beginsLayings_217 : decode cX12_beginsLayings 217 = .ok (.iconst 0, 1) := by decide +kernel
theorem dX12_beginsLayings_218 : decode cX12_beginsLayings 218 = .ok (.istore_n 1, 1) := by decide +kernel
theorem dX12_beginsLayings_219 : decode cX12_beginsLayings 219 = .ok (.iload_n 1, 1) := by decide +kernel
theorem dX12_beginsLayings_220 : decode cX12_beginsLayings 220 = .ok (.aload_n 0, 1) := by decide +kernel
theorem dX12_beginsLayings_221 : decode cX12_beginsLayings 221 = .ok (.getfield 7, 3) := by decide +kernel
theorem dX12_beginsLayings_224 : decode cX12_beginsLayings 224 = .ok (.iconst 5, 1) := by decide +kernel
theorem dX12_beginsLayings_225 : decode cX12_beginsLayings 225 = .ok (.iaload, 1) := by decide +kernel
theorem dX12_beginsLayings_226 : decode cX12_beginsLayings 226 = .ok (.if_icmp .ge 63, 3) := by decide +kernel
theorem dX12_beginsLayings_229 : decode cX12_beginsLayings 229 = .ok (.aload_n 0, 1) := by decide +kernel
theorem dX12_beginsLayings_230 : decode cX12_beginsLayings 230 = .ok (.getfield 121, 3) := by decide +kernel
theorem dX12_beginsLayings_233 : decode cX12_beginsLayings 233 = .ok (.iload_n 1, 1) := by decide +kernel
theorem dX12_beginsLayings_234 : decode cX12_beginsLayings 234 = .ok (.aload_n 0, 1) := by decide +kernel
theorem dX12_beginsLayings_235 : decode cX12_beginsLayings 235 = .ok (.getfield 34, 3) := by decide +kernel
theorem dX12_beginsLayings_238 : decode cX12_beginsLayings 238 = .ok (.iload_n 1, 1) := by decide +kernel
theorem dX12_beginsLayings_239 : decode cX12_beginsLayings 239 = .ok (.iaload, 1) := by decide +kernel
theorem dX12_beginsLayings_240 : decode cX12_beginsLayings 240 = .ok (.ifCond .ne 32, 3) := by decide +kernel
theorem dX12_beginsLayings_243 : decode cX12_beginsLayings 243 = .ok (.aload_n 0, 1) := by decide +kernel
theorem dX12_beginsLayings_244 : decode cX12_beginsLayings 244 = .ok (.aload_n 0, 1) := by decide +kernel
theorem dX12_beginsLayings_245 : decode cX12_beginsLayings 245 = .ok (.getfield 16, 3) := by decide +kernel
theorem dX12_beginsLayings_248 : decode cX12_beginsLayings 248 = .ok (.aload_n 0, 1) := by decide +kernel
theorem dX12_beginsLayings_249 : decode cX12_beginsLayings 249 = .ok (.getfield 37, 3) := by decide +kernel
theorem dX12_beginsLayings_252 : decode cX12_beginsLayings 252 = .ok (.iload_n 1, 1) := by decide +kernel
theorem dX12_beginsLayings_253 : decode cX12_beginsLayings 253 = .ok (.iaload, 1) := by decide +kernel
theorem dX12_beginsLayings_254 : decode cX12_beginsLayings 254 = .ok (.iaload, 1) := by decide +kernel
theorem dX12_beginsLayings_255 : decode cX12_beginsLayings 255 = .ok (.aload_n 0, 1) := by decide +kernel
theorem dX12_beginsLayings_256 : decode cX12_beginsLayings 256 = .ok (.getfield 19, 3) := by decide +kernel
theorem dX12_beginsLayings_259 : decode cX12_beginsLayings 259 = .ok (.aload_n 0, 1) := by decide +kernel
theorem dX12_beginsLayings_260 : decode cX12_beginsLayings 260 = .ok (.getfield 37, 3) := by decide +kernel
theorem dX12_beginsLayings_263 : decode cX12_beginsLayings 263 = .ok (.iload_n 1, 1) := by decide +kernel
theorem dX12_beginsLayings_264 : decode cX12_beginsLayings 264 = .ok (.iaload, 1) := by decide +kernel
theorem dX12_beginsLayings_265 : decode cX12_beginsLayings 265 = .ok (.iaload, 1) := by decide +kernel
theorem dX12_beginsLayings_266 : decode cX12_beginsLayings 266 = .ok (.invokevirtual 197, 3) := by decide +kernel
theorem dX12_beginsLayings_269 : decode cX12_beginsLayings 269 = .ok (.goto 13, 3) := by decide +kernel
theorem dX12_beginsLayings_272 : decode cX12_beginsLayings 272 = .ok (.aload_n 0, 1) := by decide +kernel
theorem dX12_beginsLayings_273 : decode cX12_beginsLayings 273 = .ok (.aload_n 0, 1) := by decide +kernel
theorem dX12_beginsLayings_274 : decode cX12_beginsLayings 274 = .ok (.getfield 37, 3) := by decide +kernel
theorem dX12_beginsLayings_277 : decode cX12_beginsLayings 277 = .ok (.iload_n 1, 1) := by decide +kernel
theorem dX12_beginsLayings_278 : decode cX12_beginsLayings 278 = .ok (.iaload, 1) := by decide +kernel
theorem dX12_beginsLayings_279 : decode cX12_beginsLayings 279 = .ok (.invokevirtual 207, 3) := by decide +kernel
theorem dX12_beginsLayings_282 : decode cX12_beginsLayings 282 = .ok (.lastore, 1) := by decide +kernel
theorem dX12_beginsLayings_283 : decode cX12_beginsLayings 283 = .ok (.iinc 1 1, 3) := by decide +kernel
theorem dX12_beginsLayings_286 : decode cX12_beginsLayings 286 = .ok (.goto (-67), 3) := by decide +kernel
theorem dX12_beginsLayings_289 : decode cX12_beginsLayings 289 = .ok (.aload_n 0, 1) := by decide +kernel
theorem dX12_beginsLayings_290 : decode cX12_beginsLayings 290 = .ok (.iconst 0, 1) := by decide +kernel
theorem dX12_beginsLayings_291 : decode cX12_beginsLayings 291 = .ok (.putfield 430, 3) := by decide +kernel
theorem dX12_beginsLayings_294 : decode cX12_beginsLayings 294 = .ok (.return_, 1) := by decide +kernel
theorem dX12_mayStand_0 : decode cX12_mayStand 0 = .ok (.aload_n 0, 1) := by decide +kernel
theorem dX12_mayStand_1 : decode cX12_mayStand 1 = .ok (.getfield 118, 3) := by decide +kernel
theorem dX12_mayStand_4 : decode cX12_mayStand 4 = .ok (.aload_n 0, 1) := by decide +kernel
theorem dX12_mayStand_5 : decode cX12_mayStand 5 = .ok (.getfield 112, 3) := by decide +kernel
theorem dX12_mayStand_8 : decode cX12_mayStand 8 = .ok (.iload_n 1, 1) := by decide +kernel
theorem dX12_mayStand_9 : decode cX12_mayStand 9 = .ok (.iaload, 1) := by decide +kernel
theorem dX12_mayStand_10 : decode cX12_mayStand 10 = .ok (.laload, 1) := by decide +kernel
theorem dX12_mayStand_11 : decode cX12_mayStand 11 = .ok (.iload_n 2, 1) := by decide +kernel
theorem dX12_mayStand_12 : decode cX12_mayStand 12 = .ok (.invokestatic 211, 3) := by decide +kernel
theorem dX12_mayStand_15 : decode cX12_mayStand 15 = .ok (.istore_n 3, 1) := by decide +kernel
theorem dX12_mayStand_16 : decode cX12_mayStand 16 = .ok (.iconst 0, 1) := by decide +kernel
theorem dX12_mayStand_17 : decode cX12_mayStand 17 = .ok (.istore 4, 2) := by decide +kernel
theorem dX12_mayStand_19 : decode cX12_mayStand 19 = .ok (.iload 4, 2) := by decide +kernel
theorem dX12_mayStand_21 : decode cX12_mayStand 21 = .ok (.iload_n 1, 1) := by decide +kernel
theorem dX12_mayStand_22 : decode cX12_mayStand 22 = .ok (.if_icmp .ge 44, 3) := by decide +kernel
theorem dX12_mayStand_25 : decode cX12_mayStand 25 = .ok (.iload_n 3, 1) := by decide +kernel
theorem dX12_mayStand_26 : decode cX12_mayStand 26 = .ok (.ifCond .eq 40, 3) := by decide +kernel
theorem dX12_mayStand_29 : decode cX12_mayStand 29 = .ok (.aload_n 0, 1) := by decide +kernel
theorem dX12_mayStand_30 : decode cX12_mayStand 30 = .ok (.getfield 109, 3) := by decide +kernel
theorem dX12_mayStand_33 : decode cX12_mayStand 33 = .ok (.iload 4, 2) := by decide +kernel
theorem dX12_mayStand_35 : decode cX12_mayStand 35 = .ok (.iaload, 1) := by decide +kernel
theorem dX12_mayStand_36 : decode cX12_mayStand 36 = .ok (.iload_n 2, 1) := by decide +kernel
theorem dX12_mayStand_37 : decode cX12_mayStand 37 = .ok (.invokestatic 176, 3) := by decide +kernel
theorem dX12_mayStand_40 : decode cX12_mayStand 40 = .ok (.aload_n 0, 1) := by decide +kernel
theorem dX12_mayStand_41 : decode cX12_mayStand 41 = .ok (.getfield 115, 3) := by decide +kernel
theorem dX12_mayStand_44 : decode cX12_mayStand 44 = .ok (.iconst 4, 1) := by decide +kernel
theorem dX12_mayStand_45 : decode cX12_mayStand 45 = .ok (.iload_n 1, 1) := by decide +kernel
theorem dX12_mayStand_46 : decode cX12_mayStand 46 = .ok (.imul, 1) := by decide +kernel
theorem dX12_mayStand_47 : decode cX12_mayStand 47 = .ok (.iload 4, 2) := by decide +kernel
theorem dX12_mayStand_49 : decode cX12_mayStand 49 = .ok (.iadd, 1) := by decide +kernel
theorem dX12_mayStand_50 : decode cX12_mayStand 50 = .ok (.iaload, 1) := by decide +kernel
theorem dX12_mayStand_51 : decode cX12_mayStand 51 = .ok (.if_icmp .lt 7, 3) := by decide +kernel
theorem dX12_mayStand_54 : decode cX12_mayStand 54 = .ok (.iconst 1, 1) := by decide +kernel
theorem dX12_mayStand_55 : decode cX12_mayStand 55 = .ok (.goto 4, 3) := by decide +kernel
theorem dX12_mayStand_58 : decode cX12_mayStand 58 = .ok (.iconst 0, 1) := by decide +kernel
theorem dX12_mayStand_59 : decode cX12_mayStand 59 = .ok (.istore_n 3, 1) := by decide +kernel
theorem dX12_mayStand_60 : decode cX12_mayStand 60 = .ok (.iinc 4 1, 3) := by decide +kernel
theorem dX12_mayStand_63 : decode cX12_mayStand 63 = .ok (.goto (-44), 3) := by decide +kernel
theorem dX12_mayStand_66 : decode cX12_mayStand 66 = .ok (.iload_n 3, 1) := by decide +kernel
theorem dX12_mayStand_67 : decode cX12_mayStand 67 = .ok (.ireturn, 1) := by decide +kernel
theorem dX12_laysOn_0 : decode cX12_laysOn 0 = .ok (.aload_n 0, 1) := by decide +kernel
theorem dX12_laysOn_1 : decode cX12_laysOn 1 = .ok (.getfield 424, 3) := by decide +kernel
theorem dX12_laysOn_4 : decode cX12_laysOn 4 = .ok (.ifCond .ne 23, 3) := by decide +kernel
theorem dX12_laysOn_7 : decode cX12_laysOn 7 = .ok (.aload_n 0, 1) := by decide +kernel
theorem dX12_laysOn_8 : decode cX12_laysOn 8 = .ok (.getfield 430, 3) := by decide +kernel
theorem dX12_laysOn_11 : decode cX12_laysOn 11 = .ok (.ifCond .ne 7, 3) := by decide +kernel
theorem dX12_laysOn_14 : decode cX12_laysOn 14 = .ok (.iconst 1, 1) := by decide +kernel
theorem dX12_laysOn_15 : decode cX12_laysOn 15 = .ok (.goto 4, 3) := by decide +kernel
theorem dX12_laysOn_18 : decode cX12_laysOn 18 = .ok (.iconst 0, 1) := by decide +kernel
theorem dX12_laysOn_19 : decode cX12_laysOn 19 = .ok (.istore_n 1, 1) := by decide +kernel
theorem dX12_laysOn_20 : decode cX12_laysOn 20 = .ok (.aload_n 0, 1) := by decide +kernel
theorem dX12_laysOn_21 : decode cX12_laysOn 21 = .ok (.iconst 1, 1) := by decide +kernel
theorem dX12_laysOn_22 : decode cX12_laysOn 22 = .ok (.putfield 430, 3) := by decide +kernel
theorem dX12_laysOn_25 : decode cX12_laysOn 25 = .ok (.iload_n 1, 1) := by decide +kernel
theorem dX12_laysOn_26 : decode cX12_laysOn 26 = .ok (.ireturn, 1) := by decide +kernel
theorem dX12_laysOn_27 : decode cX12_laysOn 27 = .ok (.aload_n 0, 1) := by decide +kernel
theorem dX12_laysOn_28 : decode cX12_laysOn 28 = .ok (.getfield 430, 3) := by decide +kernel
theorem dX12_laysOn_31 : decode cX12_laysOn 31 = .ok (.ifCond .eq 12, 3) := by decide +kernel
theorem dX12_laysOn_34 : decode cX12_laysOn 34 = .ok (.aload_n 0, 1) := by decide +kernel
theorem dX12_laysOn_35 : decode cX12_laysOn 35 = .ok (.getfield 424, 3) := by decide +kernel
theorem dX12_laysOn_38 : decode cX12_laysOn 38 = .ok (.iconst 1, 1) := by decide +kernel
theorem dX12_laysOn_39 : decode cX12_laysOn 39 = .ok (.isub, 1) := by decide +kernel
theorem dX12_laysOn_40 : decode cX12_laysOn 40 = .ok (.goto 4, 3) := by decide +kernel
theorem dX12_laysOn_43 : decode cX12_laysOn 43 = .ok (.iconst 0, 1) := by decide +kernel
theorem dX12_laysOn_44 : decode cX12_laysOn 44 = .ok (.istore_n 1, 1) := by decide +kernel
theorem dX12_laysOn_45 : decode cX12_laysOn 45 = .ok (.aload_n 0, 1) := by decide +kernel
theorem dX12_laysOn_46 : decode cX12_laysOn 46 = .ok (.getfield 430, 3) := by decide +kernel
theorem dX12_laysOn_49 : decode cX12_laysOn 49 = .ok (.ifCond .ne 10, 3) := by decide +kernel
theorem dX12_laysOn_52 : decode cX12_laysOn 52 = .ok (.aload_n 0, 1) := by decide +kernel
theorem dX12_laysOn_53 : decode cX12_laysOn 53 = .ok (.getfield 109, 3) := by decide +kernel
theorem dX12_laysOn_56 : decode cX12_laysOn 56 = .ok (.iconst 0, 1) := by decide +kernel
theorem dX12_laysOn_57 : decode cX12_laysOn 57 = .ok (.iconst (-1), 1) := by decide +kernel
theorem dX12_laysOn_58 : decode cX12_laysOn 58 = .ok (.iastore, 1) := by decide +kernel
theorem dX12_laysOn_59 : decode cX12_laysOn 59 = .ok (.aload_n 0, 1) := by decide +kernel
theorem dX12_laysOn_60 : decode cX12_laysOn 60 = .ok (.iconst 1, 1) := by decide +kernel
theorem dX12_laysOn_61 : decode cX12_laysOn 61 = .ok (.putfield 430, 3) := by decide +kernel
theorem dX12_laysOn_64 : decode cX12_laysOn 64 = .ok (.iload_n 1, 1) := by decide +kernel
theorem dX12_laysOn_65 : decode cX12_laysOn 65 = .ok (.ifCond .lt 105, 3) := by decide +kernel
theorem dX12_laysOn_68 : decode cX12_laysOn 68 = .ok (.aload_n 0, 1) := by decide +kernel
theorem dX12_laysOn_69 : decode cX12_laysOn 69 = .ok (.getfield 109, 3) := by decide +kernel
theorem dX12_laysOn_72 : decode cX12_laysOn 72 = .ok (.iload_n 1, 1) := by decide +kernel
theorem dX12_laysOn_73 : decode cX12_laysOn 73 = .ok (.iaload, 1) := by decide +kernel
theorem dX12_laysOn_74 : decode cX12_laysOn 74 = .ok (.iconst 1, 1) := by decide +kernel
theorem dX12_laysOn_75 : decode cX12_laysOn 75 = .ok (.iadd, 1) := by decide +kernel
theorem dX12_laysOn_76 : decode cX12_laysOn 76 = .ok (.istore_n 2, 1) := by decide +kernel
theorem dX12_laysOn_77 : decode cX12_laysOn 77 = .ok (.iload_n 2, 1) := by decide +kernel
theorem dX12_laysOn_78 : decode cX12_laysOn 78 = .ok (.bipush 36, 2) := by decide +kernel
theorem dX12_laysOn_80 : decode cX12_laysOn 80 = .ok (.if_icmp .ge 18, 3) := by decide +kernel
theorem dX12_laysOn_83 : decode cX12_laysOn 83 = .ok (.aload_n 0, 1) := by decide +kernel
theorem dX12_laysOn_84 : decode cX12_laysOn 84 = .ok (.iload_n 1, 1) := by decide +kernel
theorem dX12_laysOn_85 : decode cX12_laysOn 85 = .ok (.iload_n 2, 1) := by decide +kernel
theorem dX12_laysOn_86 : decode cX12_laysOn 86 = .ok (.invokevirtual 434, 3) := by decide +kernel
theorem dX12_laysOn_89 : decode cX12_laysOn 89 = .ok (.ifCond .ne 9, 3) := by decide +kernel
theorem dX12_laysOn_92 : decode cX12_laysOn 92 = .ok (.iinc 2 1, 3) := by decide +kernel
theorem dX12_laysOn_95 : decode cX12_laysOn 95 = .ok (.goto (-18), 3) := by decide +kernel
theorem dX12_laysOn_98 : decode cX12_laysOn 98 = .ok (.aload_n 0, 1) := by decide +kernel
theorem dX12_laysOn_99 : decode cX12_laysOn 99 = .ok (.getfield 109, 3) := by decide +kernel
theorem dX12_laysOn_102 : decode cX12_laysOn 102 = .ok (.iload_n 1, 1) := by decide +kernel
theorem dX12_laysOn_103 : decode cX12_laysOn 103 = .ok (.iload_n 2, 1) := by decide +kernel
theorem dX12_laysOn_104 : decode cX12_laysOn 104 = .ok (.iastore, 1) := by decide +kernel
theorem dX12_laysOn_105 : decode cX12_laysOn 105 = .ok (.iload_n 2, 1) := by decide +kernel
theorem dX12_laysOn_106 : decode cX12_laysOn 106 = .ok (.bipush 36, 2) := by decide +kernel
theorem dX12_laysOn_108 : decode cX12_laysOn 108 = .ok (.if_icmp .ne 9, 3) := by decide +kernel
theorem dX12_laysOn_111 : decode cX12_laysOn 111 = .ok (.iinc 1 (-1), 3) := by decide +kernel
theorem dX12_laysOn_114 : decode cX12_laysOn 114 = .ok (.goto 53, 3) := by decide +kernel
theorem dX12_laysOn_117 : decode cX12_laysOn 117 = .ok (.iload_n 1, 1) := by decide +kernel
theorem dX12_laysOn_118 : decode cX12_laysOn 118 = .ok (.aload_n 0, 1) := by decide +kernel
theorem dX12_laysOn_119 : decode cX12_laysOn 119 = .ok (.getfield 424, 3) := by decide +kernel
theorem dX12_laysOn_122 : decode cX12_laysOn 122 = .ok (.iconst 1, 1) := by decide +kernel
theorem dX12_laysOn_123 : decode cX12_laysOn 123 = .ok (.isub, 1) := by decide +kernel
theorem dX12_laysOn_124 : decode cX12_laysOn 124 = .ok (.if_icmp .ne 5, 3) := by decide +kernel
theorem dX12_laysOn_127 : decode cX12_laysOn 127 = .ok (.iconst 1, 1) := by decide +kernel
theorem dX12_laysOn_128 : decode cX12_laysOn 128 = .ok (.ireturn, 1) := by decide +kernel
theorem dX12_laysOn_129 : decode cX12_laysOn 129 = .ok (.iinc 1 1, 3) := by decide +kernel
theorem dX12_laysOn_132 : decode cX12_laysOn 132 = .ok (.aload_n 0, 1) := by decide +kernel
theorem dX12_laysOn_133 : decode cX12_laysOn 133 = .ok (.getfield 109, 3) := by decide +kernel
theorem dX12_laysOn_136 : decode cX12_laysOn 136 = .ok (.iload_n 1, 1) := by decide +kernel
theorem dX12_laysOn_137 : decode cX12_laysOn 137 = .ok (.aload_n 0, 1) := by decide +kernel
theorem dX12_laysOn_138 : decode cX12_laysOn 138 = .ok (.getfield 112, 3) := by decide +kernel
theorem dX12_laysOn_141 : decode cX12_laysOn 141 = .ok (.iload_n 1, 1) := by decide +kernel
theorem dX12_laysOn_142 : decode cX12_laysOn 142 = .ok (.iaload, 1) := by decide +kernel
theorem dX12_laysOn_143 : decode cX12_laysOn 143 = .ok (.aload_n 0, 1) := by decide +kernel
theorem dX12_laysOn_144 : decode cX12_laysOn 144 = .ok (.getfield 112, 3) := by decide +kernel
theorem dX12_laysOn_147 : decode cX12_laysOn 147 = .ok (.iload_n 1, 1) := by decide +kernel
theorem dX12_laysOn_148 : decode cX12_laysOn 148 = .ok (.iconst 1, 1) := by decide +kernel
theorem dX12_laysOn_149 : decode cX12_laysOn 149 = .ok (.isub, 1) := by decide +kernel
theorem dX12_laysOn_150 : decode cX12_laysOn 150 = .ok (.iaload, 1) := by decide +kernel
theorem dX12_laysOn_151 : decode cX12_laysOn 151 = .ok (.if_icmp .ne 14, 3) := by decide +kernel
theorem dX12_laysOn_154 : decode cX12_laysOn 154 = .ok (.aload_n 0, 1) := by decide +kernel
theorem dX12_laysOn_155 : decode cX12_laysOn 155 = .ok (.getfield 109, 3) := by decide +kernel
theorem dX12_laysOn_158 : decode cX12_laysOn 158 = .ok (.iload_n 1, 1) := by decide +kernel
theorem dX12_laysOn_159 : decode cX12_laysOn 159 = .ok (.iconst 1, 1) := by decide +kernel
theorem dX12_laysOn_160 : decode cX12_laysOn 160 = .ok (.isub, 1) := by decide +kernel
theorem dX12_laysOn_161 : decode cX12_laysOn 161 = .ok (.iaload, 1) := by decide +kernel
theorem dX12_laysOn_162 : decode cX12_laysOn 162 = .ok (.goto 4, 3) := by decide +kernel
theorem dX12_laysOn_165 : decode cX12_laysOn 165 = .ok (.iconst (-1), 1) := by decide +kernel
theorem dX12_laysOn_166 : decode cX12_laysOn 166 = .ok (.iastore, 1) := by decide +kernel
theorem dX12_laysOn_167 : decode cX12_laysOn 167 = .ok (.goto (-103), 3) := by decide +kernel
theorem dX12_laysOn_170 : decode cX12_laysOn 170 = .ok (.iconst 0, 1) := by decide +kernel
theorem dX12_laysOn_171 : decode cX12_laysOn 171 = .ok (.ireturn, 1) := by decide +kernel
theorem dX12_fitsNote_0 : decode cX12_fitsNote 0 = .ok (.iconst 0, 1) := by decide +kernel
theorem dX12_fitsNote_1 : decode cX12_fitsNote 1 = .ok (.istore_n 2, 1) := by decide +kernel
theorem dX12_fitsNote_2 : decode cX12_fitsNote 2 = .ok (.iconst 0, 1) := by decide +kernel
theorem dX12_fitsNote_3 : decode cX12_fitsNote 3 = .ok (.istore_n 3, 1) := by decide +kernel
theorem dX12_fitsNote_4 : decode cX12_fitsNote 4 = .ok (.iload_n 3, 1) := by decide +kernel
theorem dX12_fitsNote_5 : decode cX12_fitsNote 5 = .ok (.aload_n 0, 1) := by decide +kernel
theorem dX12_fitsNote_6 : decode cX12_fitsNote 6 = .ok (.getfield 424, 3) := by decide +kernel
theorem dX12_fitsNote_9 : decode cX12_fitsNote 9 = .ok (.if_icmp .ge 50, 3) := by decide +kernel
theorem dX12_fitsNote_12 : decode cX12_fitsNote 12 = .ok (.iload_n 2, 1) := by decide +kernel
theorem dX12_fitsNote_13 : decode cX12_fitsNote 13 = .ok (.aload_n 0, 1) := by decide +kernel
theorem dX12_fitsNote_14 : decode cX12_fitsNote 14 = .ok (.getfield 112, 3) := by decide +kernel
theorem dX12_fitsNote_17 : decode cX12_fitsNote 17 = .ok (.iload_n 3, 1) := by decide +kernel
theorem dX12_fitsNote_18 : decode cX12_fitsNote 18 = .ok (.iaload, 1) := by decide +kernel
theorem dX12_fitsNote_19 : decode cX12_fitsNote 19 = .ok (.aload_n 0, 1) := by decide +kernel
theorem dX12_fitsNote_20 : decode cX12_fitsNote 20 = .ok (.getfield 40, 3) := by decide +kernel
theorem dX12_fitsNote_23 : decode cX12_fitsNote 23 = .ok (.iload_n 1, 1) := by decide +kernel
theorem dX12_fitsNote_24 : decode cX12_fitsNote 24 = .ok (.iaload, 1) := by decide +kernel
theorem dX12_fitsNote_25 : decode cX12_fitsNote 25 = .ok (.if_icmp .ne 25, 3) := by decide +kernel
theorem dX12_fitsNote_28 : decode cX12_fitsNote 28 = .ok (.aload_n 0, 1) := by decide +kernel
theorem dX12_fitsNote_29 : decode cX12_fitsNote 29 = .ok (.getfield 121, 3) := by decide +kernel
theorem dX12_fitsNote_32 : decode cX12_fitsNote 32 = .ok (.iload_n 1, 1) := by decide +kernel
theorem dX12_fitsNote_33 : decode cX12_fitsNote 33 = .ok (.laload, 1) := by decide +kernel
theorem dX12_fitsNote_34 : decode cX12_fitsNote 34 = .ok (.aload_n 0, 1) := by decide +kernel
theorem dX12_fitsNote_35 : decode cX12_fitsNote 35 = .ok (.getfield 109, 3) := by decide +kernel
theorem dX12_fitsNote_38 : decode cX12_fitsNote 38 = .ok (.iload_n 3, 1) := by decide +kernel
theorem dX12_fitsNote_39 : decode cX12_fitsNote 39 = .ok (.iaload, 1) := by decide +kernel
theorem dX12_fitsNote_40 : decode cX12_fitsNote 40 = .ok (.invokestatic 211, 3) := by decide +kernel
theorem dX12_fitsNote_43 : decode cX12_fitsNote 43 = .ok (.ifCond .eq 7, 3) := by decide +kernel
theorem dX12_fitsNote_46 : decode cX12_fitsNote 46 = .ok (.iconst 1, 1) := by decide +kernel
theorem dX12_fitsNote_47 : decode cX12_fitsNote 47 = .ok (.goto 4, 3) := by decide +kernel
theorem dX12_fitsNote_50 : decode cX12_fitsNote 50 = .ok (.iconst 0, 1) := by decide +kernel
theorem dX12_fitsNote_51 : decode cX12_fitsNote 51 = .ok (.iadd, 1) := by decide +kernel
theorem dX12_fitsNote_52 : decode cX12_fitsNote 52 = .ok (.istore_n 2, 1) := by decide +kernel
theorem dX12_fitsNote_53 : decode cX12_fitsNote 53 = .ok (.iinc 3 1, 3) := by decide +kernel
theorem dX12_fitsNote_56 : decode cX12_fitsNote 56 = .ok (.goto (-52), 3) := by decide +kernel
theorem dX12_fitsNote_59 : decode cX12_fitsNote 59 = .ok (.aload_n 0, 1) := by decide +kernel
theorem dX12_fitsNote_60 : decode cX12_fitsNote 60 = .ok (.getfield 43, 3) := by decide +kernel
theorem dX12_fitsNote_63 : decode cX12_fitsNote 63 = .ok (.iload_n 1, 1) := by decide +kernel
theorem dX12_fitsNote_64 : decode cX12_fitsNote 64 = .ok (.iaload, 1) := by decide +kernel
theorem dX12_fitsNote_65 : decode cX12_fitsNote 65 = .ok (.ifCond .ge 15, 3) := by decide +kernel
theorem dX12_fitsNote_68 : decode cX12_fitsNote 68 = .ok (.iload_n 2, 1) := by decide +kernel
theorem dX12_fitsNote_69 : decode cX12_fitsNote 69 = .ok (.ifCond .le 7, 3) := by decide +kernel
theorem dX12_fitsNote_72 : decode cX12_fitsNote 72 = .ok (.iconst 1, 1) := by decide +kernel
theorem dX12_fitsNote_73 : decode cX12_fitsNote 73 = .ok (.goto 22, 3) := by decide +kernel
theorem dX12_fitsNote_76 : decode cX12_fitsNote 76 = .ok (.iconst 0, 1) := by decide +kernel
theorem dX12_fitsNote_77 : decode cX12_fitsNote 77 = .ok (.goto 18, 3) := by decide +kernel
theorem dX12_fitsNote_80 : decode cX12_fitsNote 80 = .ok (.iload_n 2, 1) := by decide +kernel
theorem dX12_fitsNote_81 : decode cX12_fitsNote 81 = .ok (.aload_n 0, 1) := by decide +kernel
theorem dX12_fitsNote_82 : decode cX12_fitsNote 82 = .ok (.getfield 43, 3) := by decide +kernel
theorem dX12_fitsNote_85 : decode cX12_fitsNote 85 = .ok (.iload_n 1, 1) := by decide +kernel
theorem dX12_fitsNote_86 : decode cX12_fitsNote 86 = .ok (.iaload, 1) := by decide +kernel
theorem dX12_fitsNote_87 : decode cX12_fitsNote 87 = .ok (.if_icmp .gt 7, 3) := by decide +kernel
theorem dX12_fitsNote_90 : decode cX12_fitsNote 90 = .ok (.iconst 1, 1) := by decide +kernel
theorem dX12_fitsNote_91 : decode cX12_fitsNote 91 = .ok (.goto 4, 3) := by decide +kernel
theorem dX12_fitsNote_94 : decode cX12_fitsNote 94 = .ok (.iconst 0, 1) := by decide +kernel
theorem dX12_fitsNote_95 : decode cX12_fitsNote 95 = .ok (.ireturn, 1) := by decide +kernel
theorem dX12_fitsOf_0 : decode cX12_fitsOf 0 = .ok (.iconst 0, 1) := by decide +kernel
theorem dX12_fitsOf_1 : decode cX12_fitsOf 1 = .ok (.istore_n 2, 1) := by decide +kernel
theorem dX12_fitsOf_2 : decode cX12_fitsOf 2 = .ok (.iconst 0, 1) := by decide +kernel
theorem dX12_fitsOf_3 : decode cX12_fitsOf 3 = .ok (.istore_n 3, 1) := by decide +kernel
theorem dX12_fitsOf_4 : decode cX12_fitsOf 4 = .ok (.iload_n 3, 1) := by decide +kernel
theorem dX12_fitsOf_5 : decode cX12_fitsOf 5 = .ok (.aload_n 0, 1) := by decide +kernel
theorem dX12_fitsOf_6 : decode cX12_fitsOf 6 = .ok (.getfield 7, 3) := by decide +kernel
theorem dX12_fitsOf_9 : decode cX12_fitsOf 9 = .ok (.iconst 5, 1) := by decide +kernel
theorem dX12_fitsOf_10 : decode cX12_fitsOf 10 = .ok (.iaload, 1) := by decide +kernel
theorem dX12_fitsOf_11 : decode cX12_fitsOf 11 = .ok (.if_icmp .ge 36, 3) := by decide +kernel
theorem dX12_fitsOf_14 : decode cX12_fitsOf 14 = .ok (.iload_n 2, 1) := by decide +kernel
theorem dX12_fitsOf_15 : decode cX12_fitsOf 15 = .ok (.iload_n 1, 1) := by decide +kernel
theorem dX12_fitsOf_16 : decode cX12_fitsOf 16 = .ok (.i2l, 1) := by decide +kernel
theorem dX12_fitsOf_17 : decode cX12_fitsOf 17 = .ok (.iload_n 3, 1) := by decide +kernel
theorem dX12_fitsOf_18 : decode cX12_fitsOf 18 = .ok (.invokestatic 211, 3) := by decide +kernel
theorem dX12_fitsOf_21 : decode cX12_fitsOf 21 = .ok (.ifCond .eq 17, 3) := by decide +kernel
theorem dX12_fitsOf_24 : decode cX12_fitsOf 24 = .ok (.aload_n 0, 1) := by decide +kernel
theorem dX12_fitsOf_25 : decode cX12_fitsOf 25 = .ok (.iload_n 3, 1) := by decide +kernel
theorem dX12_fitsOf_26 : decode cX12_fitsOf 26 = .ok (.invokevirtual 437, 3) := by decide +kernel
theorem dX12_fitsOf_29 : decode cX12_fitsOf 29 = .ok (.ifCond .eq 9, 3) := by decide +kernel
theorem dX12_fitsOf_32 : decode cX12_fitsOf 32 = .ok (.iconst 1, 1) := by decide +kernel
theorem dX12_fitsOf_33 : decode cX12_fitsOf 33 = .ok (.iload_n 3, 1) := by decide +kernel
theorem dX12_fitsOf_34 : decode cX12_fitsOf 34 = .ok (.ishl, 1) := by decide +kernel
theorem dX12_fitsOf_35 : decode cX12_fitsOf 35 = .ok (.goto 4, 3) := by decide +kernel
theorem dX12_fitsOf_38 : decode cX12_fitsOf 38 = .ok (.iconst 0, 1) := by decide +kernel
theorem dX12_fitsOf_39 : decode cX12_fitsOf 39 = .ok (.ior, 1) := by decide +kernel
theorem dX12_fitsOf_40 : decode cX12_fitsOf 40 = .ok (.istore_n 2, 1) := by decide +kernel
theorem dX12_fitsOf_41 : decode cX12_fitsOf 41 = .ok (.iinc 3 1, 3) := by decide +kernel
theorem dX12_fitsOf_44 : decode cX12_fitsOf 44 = .ok (.goto (-40), 3) := by decide +kernel
theorem dX12_fitsOf_47 : decode cX12_fitsOf 47 = .ok (.iload_n 2, 1) := by decide +kernel
theorem dX12_fitsOf_48 : decode cX12_fitsOf 48 = .ok (.ireturn, 1) := by decide +kernel
theorem dX12_goesTo_0 : decode cX12_goesTo 0 = .ok (.aload_n 0, 1) := by decide +kernel
theorem dX12_goesTo_1 : decode cX12_goesTo 1 = .ok (.invokevirtual 440, 3) := by decide +kernel
theorem dX12_goesTo_4 : decode cX12_goesTo 4 = .ok (.istore_n 2, 1) := by decide +kernel
theorem dX12_goesTo_5 : decode cX12_goesTo 5 = .ok (.iload_n 2, 1) := by decide +kernel
theorem dX12_goesTo_6 : decode cX12_goesTo 6 = .ok (.ifCond .eq 20, 3) := by decide +kernel
theorem dX12_goesTo_9 : decode cX12_goesTo 9 = .ok (.aload_n 0, 1) := by decide +kernel
theorem dX12_goesTo_10 : decode cX12_goesTo 10 = .ok (.iload_n 1, 1) := by decide +kernel
theorem dX12_goesTo_11 : decode cX12_goesTo 11 = .ok (.invokevirtual 443, 3) := by decide +kernel
theorem dX12_goesTo_14 : decode cX12_goesTo 14 = .ok (.iload_n 1, 1) := by decide +kernel
theorem dX12_goesTo_15 : decode cX12_goesTo 15 = .ok (.if_icmp .eq 11, 3) := by decide +kernel
theorem dX12_goesTo_18 : decode cX12_goesTo 18 = .ok (.aload_n 0, 1) := by decide +kernel
theorem dX12_goesTo_19 : decode cX12_goesTo 19 = .ok (.invokevirtual 440, 3) := by decide +kernel
theorem dX12_goesTo_22 : decode cX12_goesTo 22 = .ok (.istore_n 2, 1) := by decide +kernel
theorem dX12_goesTo_23 : decode cX12_goesTo 23 = .ok (.goto (-18), 3) := by decide +kernel
theorem dX12_goesTo_26 : decode cX12_goesTo 26 = .ok (.iload_n 2, 1) := by decide +kernel
theorem dX12_goesTo_27 : decode cX12_goesTo 27 = .ok (.ireturn, 1) := by decide +kernel
theorem dX12_isSet_0 : decode cX12_isSet 0 = .ok (.aload_n 0, 1) := by decide +kernel
theorem dX12_isSet_1 : decode cX12_isSet 1 = .ok (.invokevirtual 203, 3) := by decide +kernel
theorem dX12_isSet_4 : decode cX12_isSet 4 = .ok (.ifCond .eq 27, 3) := by decide +kernel
theorem dX12_isSet_7 : decode cX12_isSet 7 = .ok (.iload_n 1, 1) := by decide +kernel
theorem dX12_isSet_8 : decode cX12_isSet 8 = .ok (.i2l, 1) := by decide +kernel
theorem dX12_isSet_9 : decode cX12_isSet 9 = .ok (.lconst 0, 1) := by decide +kernel
theorem dX12_isSet_10 : decode cX12_isSet 10 = .ok (.iconst 1, 1) := by decide +kernel
theorem dX12_isSet_11 : decode cX12_isSet 11 = .ok (.aload_n 0, 1) := by decide +kernel
theorem dX12_isSet_12 : decode cX12_isSet 12 = .ok (.getfield 7, 3) := by decide +kernel
theorem dX12_isSet_15 : decode cX12_isSet 15 = .ok (.iconst 5, 1) := by decide +kernel
theorem dX12_isSet_16 : decode cX12_isSet 16 = .ok (.iaload, 1) := by decide +kernel
theorem dX12_isSet_17 : decode cX12_isSet 17 = .ok (.ishl, 1) := by decide +kernel
theorem dX12_isSet_18 : decode cX12_isSet 18 = .ok (.iconst 1, 1) := by decide +kernel
theorem dX12_isSet_19 : decode cX12_isSet 19 = .ok (.isub, 1) := by decide +kernel
theorem dX12_isSet_20 : decode cX12_isSet 20 = .ok (.i2l, 1) := by decide +kernel
theorem dX12_isSet_21 : decode cX12_isSet 21 = .ok (.invokestatic 161, 3) := by decide +kernel
theorem dX12_isSet_24 : decode cX12_isSet 24 = .ok (.ifCond .eq 7, 3) := by decide +kernel
theorem dX12_isSet_27 : decode cX12_isSet 27 = .ok (.iconst 1, 1) := by decide +kernel
theorem dX12_isSet_28 : decode cX12_isSet 28 = .ok (.goto 4, 3) := by decide +kernel
theorem dX12_isSet_31 : decode cX12_isSet 31 = .ok (.iconst 0, 1) := by decide +kernel
theorem dX12_isSet_32 : decode cX12_isSet 32 = .ok (.ireturn, 1) := by decide +kernel
theorem dX12_manyFit_0 : decode cX12_manyFit 0 = .ok (.aload_n 0, 1) := by decide +kernel
theorem dX12_manyFit_1 : decode cX12_manyFit 1 = .ok (.invokevirtual 446, 3) := by decide +kernel
theorem dX12_manyFit_4 : decode cX12_manyFit 4 = .ok (.iconst 0, 1) := by decide +kernel
theorem dX12_manyFit_5 : decode cX12_manyFit 5 = .ok (.istore_n 2, 1) := by decide +kernel
theorem dX12_manyFit_6 : decode cX12_manyFit 6 = .ok (.aload_n 0, 1) := by decide +kernel
theorem dX12_manyFit_7 : decode cX12_manyFit 7 = .ok (.iload_n 1, 1) := by decide +kernel
theorem dX12_manyFit_8 : decode cX12_manyFit 8 = .ok (.invokevirtual 449, 3) := by decide +kernel
theorem dX12_manyFit_11 : decode cX12_manyFit 11 = .ok (.ifCond .eq 9, 3) := by decide +kernel
theorem dX12_manyFit_14 : decode cX12_manyFit 14 = .ok (.iinc 2 1, 3) := by decide +kernel
theorem dX12_manyFit_17 : decode cX12_manyFit 17 = .ok (.goto (-11), 3) := by decide +kernel
theorem dX12_manyFit_20 : decode cX12_manyFit 20 = .ok (.iload_n 2, 1) := by decide +kernel
theorem dX12_manyFit_21 : decode cX12_manyFit 21 = .ok (.ireturn, 1) := by decide +kernel
theorem dX12_layings_0 : decode cX12_layings 0 = .ok (.aload_n 0, 1) := by decide +kernel
theorem dX12_layings_1 : decode cX12_layings 1 = .ok (.iload_n 1, 1) := by decide +kernel
theorem dX12_layings_2 : decode cX12_layings 2 = .ok (.invokevirtual 452, 3) := by decide +kernel
theorem dX12_layings_5 : decode cX12_layings 5 = .ok (.ifCond .eq 11, 3) := by decide +kernel
theorem dX12_layings_8 : decode cX12_layings 8 = .ok (.aload_n 0, 1) := by decide +kernel
theorem dX12_layings_9 : decode cX12_layings 9 = .ok (.iload_n 1, 1) := by decide +kernel
theorem dX12_layings_10 : decode cX12_layings 10 = .ok (.invokevirtual 455, 3) := by decide +kernel
theorem dX12_layings_13 : decode cX12_layings 13 = .ok (.goto 4, 3) := by decide +kernel
theorem dX12_layings_16 : decode cX12_layings 16 = .ok (.iconst (-1), 1) := by decide +kernel
theorem dX12_layings_17 : decode cX12_layings 17 = .ok (.ireturn, 1) := by decide +kernel
theorem dX12_stoodOn_0 : decode cX12_stoodOn 0 = .ok (.iconst 0, 1) := by decide +kernel
theorem dX12_stoodOn_1 : decode cX12_stoodOn 1 = .ok (.istore_n 3, 1) := by decide +kernel
theorem dX12_stoodOn_2 : decode cX12_stoodOn 2 = .ok (.iconst 0, 1) := by decide +kernel
theorem dX12_stoodOn_3 : decode cX12_stoodOn 3 = .ok (.istore 4, 2) := by decide +kernel
theorem dX12_stoodOn_5 : decode cX12_stoodOn 5 = .ok (.iload 4, 2) := by decide +kernel
theorem dX12_stoodOn_7 : decode cX12_stoodOn 7 = .ok (.aload_n 0, 1) := by decide +kernel
theorem dX12_stoodOn_8 : decode cX12_stoodOn 8 = .ok (.getfield 424, 3) := by decide +kernel
theorem dX12_stoodOn_11 : decode cX12_stoodOn 11 = .ok (.if_icmp .ge 41, 3) := by decide +kernel
theorem dX12_stoodOn_14 : decode cX12_stoodOn 14 = .ok (.iload_n 3, 1) := by decide +kernel
theorem dX12_stoodOn_15 : decode cX12_stoodOn 15 = .ok (.ifCond .ne 25, 3) := by decide +kernel
theorem dX12_stoodOn_18 : decode cX12_stoodOn 18 = .ok (.aload_n 0, 1) := by decide +kernel
theorem dX12_stoodOn_19 : decode cX12_stoodOn 19 = .ok (.getfield 109, 3) := by decide +kernel
theorem dX12_stoodOn_22 : decode cX12_stoodOn 22 = .ok (.iload 4, 2) := by decide +kernel
theorem dX12_stoodOn_24 : decode cX12_stoodOn 24 = .ok (.iaload, 1) := by decide +kernel
theorem dX12_stoodOn_25 : decode cX12_stoodOn 25 = .ok (.iload_n 1, 1) := by decide +kernel
theorem dX12_stoodOn_26 : decode cX12_stoodOn 26 = .ok (.if_icmp .ne 18, 3) := by decide +kernel
theorem dX12_stoodOn_29 : decode cX12_stoodOn 29 = .ok (.aload_n 0, 1) := by decide +kernel
theorem dX12_stoodOn_30 : decode cX12_stoodOn 30 = .ok (.getfield 112, 3) := by decide +kernel
theorem dX12_stoodOn_33 : decode cX12_stoodOn 33 = .ok (.iload 4, 2) := by decide +kernel
theorem dX12_stoodOn_35 : decode cX12_stoodOn 35 = .ok (.iaload, 1) := by decide +kernel
theorem dX12_stoodOn_36 : decode cX12_stoodOn 36 = .ok (.iload_n 2, 1) := by decide +kernel
theorem dX12_stoodOn_37 : decode cX12_stoodOn 37 = .ok (.if_icmp .ne 7, 3) := by decide +kernel
theorem dX12_stoodOn_40 : decode cX12_stoodOn 40 = .ok (.iconst 1, 1) := by decide +kernel
theorem dX12_stoodOn_41 : decode cX12_stoodOn 41 = .ok (.goto 4, 3) := by decide +kernel
theorem dX12_stoodOn_44 : decode cX12_stoodOn 44 = .ok (.iconst 0, 1) := by decide +kernel
theorem dX12_stoodOn_45 : decode cX12_stoodOn 45 = .ok (.istore_n 3, 1) := by decide +kernel
theorem dX12_stoodOn_46 : decode cX12_stoodOn 46 = .ok (.iinc 4 1, 3) := by decide +kernel
theorem dX12_stoodOn_49 : decode cX12_stoodOn 49 = .ok (.goto (-44), 3) := by decide +kernel
theorem dX12_stoodOn_52 : decode cX12_stoodOn 52 = .ok (.iload_n 3, 1) := by decide +kernel
theorem dX12_stoodOn_53 : decode cX12_stoodOn 53 = .ok (.ireturn, 1) := by decide +kernel
theorem dX12_counts_0 : decode cX12_counts 0 = .ok (.aload_n 0, 1) := by decide +kernel
theorem dX12_counts_1 : decode cX12_counts 1 = .ok (.invokevirtual 446, 3) := by decide +kernel
theorem dX12_counts_4 : decode cX12_counts 4 = .ok (.aload_n 0, 1) := by decide +kernel
theorem dX12_counts_5 : decode cX12_counts 5 = .ok (.iconst 0, 1) := by decide +kernel
theorem dX12_counts_6 : decode cX12_counts 6 = .ok (.putfield 458, 3) := by decide +kernel
theorem dX12_counts_9 : decode cX12_counts 9 = .ok (.aload_n 0, 1) := by decide +kernel
theorem dX12_counts_10 : decode cX12_counts 10 = .ok (.iconst 0, 1) := by decide +kernel
theorem dX12_counts_11 : decode cX12_counts 11 = .ok (.putfield 461, 3) := by decide +kernel
theorem dX12_counts_14 : decode cX12_counts 14 = .ok (.aload_n 0, 1) := by decide +kernel
theorem dX12_counts_15 : decode cX12_counts 15 = .ok (.iload_n 1, 1) := by decide +kernel
theorem dX12_counts_16 : decode cX12_counts 16 = .ok (.invokevirtual 449, 3) := by decide +kernel
theorem dX12_counts_19 : decode cX12_counts 19 = .ok (.ifCond .eq 39, 3) := by decide +kernel
theorem dX12_counts_22 : decode cX12_counts 22 = .ok (.aload_n 0, 1) := by decide +kernel
theorem dX12_counts_23 : decode cX12_counts 23 = .ok (.dup, 1) := by decide +kernel
theorem dX12_counts_24 : decode cX12_counts 24 = .ok (.getfield 458, 3) := by decide +kernel
theorem dX12_counts_27 : decode cX12_counts 27 = .ok (.iconst 1, 1) := by decide +kernel
theorem dX12_counts_28 : decode cX12_counts 28 = .ok (.iadd, 1) := by decide +kernel
theorem dX12_counts_29 : decode cX12_counts 29 = .ok (.putfield 458, 3) := by decide +kernel
theorem dX12_counts_32 : decode cX12_counts 32 = .ok (.aload_n 0, 1) := by decide +kernel
theorem dX12_counts_33 : decode cX12_counts 33 = .ok (.dup, 1) := by decide +kernel
theorem dX12_counts_34 : decode cX12_counts 34 = .ok (.getfield 461, 3) := by decide +kernel
theorem dX12_counts_37 : decode cX12_counts 37 = .ok (.aload_n 0, 1) := by decide +kernel
theorem dX12_counts_38 : decode cX12_counts 38 = .ok (.iload_n 2, 1) := by decide +kernel
theorem dX12_counts_39 : decode cX12_counts 39 = .ok (.iload_n 3, 1) := by decide +kernel
theorem dX12_counts_40 : decode cX12_counts 40 = .ok (.invokevirtual 464, 3) := by decide +kernel
theorem dX12_counts_43 : decode cX12_counts 43 = .ok (.ifCond .eq 7, 3) := by decide +kernel
theorem dX12_counts_46 : decode cX12_counts 46 = .ok (.iconst 1, 1) := by decide +kernel
theorem dX12_counts_47 : decode cX12_counts 47 = .ok (.goto 4, 3) := by decide +kernel
theorem dX12_counts_50 : decode cX12_counts 50 = .ok (.iconst 0, 1) := by decide +kernel
theorem dX12_counts_51 : decode cX12_counts 51 = .ok (.iadd, 1) := by decide +kernel
theorem dX12_counts_52 : decode cX12_counts 52 = .ok (.putfield 461, 3) := by decide +kernel
theorem dX12_counts_55 : decode cX12_counts 55 = .ok (.goto (-41), 3) := by decide +kernel
theorem dX12_counts_58 : decode cX12_counts 58 = .ok (.return_, 1) := by decide +kernel
theorem dX12_may_0 : decode cX12_may 0 = .ok (.aload_n 0, 1) := by decide +kernel
theorem dX12_may_1 : decode cX12_may 1 = .ok (.iload_n 1, 1) := by decide +kernel
theorem dX12_may_2 : decode cX12_may 2 = .ok (.invokevirtual 452, 3) := by decide +kernel
theorem dX12_may_5 : decode cX12_may 5 = .ok (.ifCond .eq 21, 3) := by decide +kernel
theorem dX12_may_8 : decode cX12_may 8 = .ok (.aload_n 0, 1) := by decide +kernel
theorem dX12_may_9 : decode cX12_may 9 = .ok (.iload_n 2, 1) := by decide +kernel
theorem dX12_may_10 : decode cX12_may 10 = .ok (.iload_n 3, 1) := by decide +kernel
theorem dX12_may_11 : decode cX12_may 11 = .ok (.invokevirtual 165, 3) := by decide +kernel
theorem dX12_may_14 : decode cX12_may 14 = .ok (.ifCond .eq 12, 3) := by decide +kernel
theorem dX12_may_17 : decode cX12_may 17 = .ok (.aload_n 0, 1) := by decide +kernel
theorem dX12_may_18 : decode cX12_may 18 = .ok (.iload 4, 2) := by decide +kernel
theorem dX12_may_20 : decode cX12_may 20 = .ok (.invokevirtual 410, 3) := by decide +kernel
theorem dX12_may_23 : decode cX12_may 23 = .ok (.ifCond .ne 5, 3) := by decide +kernel
theorem dX12_may_26 : decode cX12_may 26 = .ok (.iconst (-1), 1) := by decide +kernel
theorem dX12_may_27 : decode cX12_may 27 = .ok (.ireturn, 1) := by decide +kernel
theorem dX12_may_28 : decode cX12_may 28 = .ok (.aload_n 0, 1) := by decide +kernel
theorem dX12_may_29 : decode cX12_may 29 = .ok (.iload_n 1, 1) := by decide +kernel
theorem dX12_may_30 : decode cX12_may 30 = .ok (.bipush 6, 2) := by decide +kernel
theorem dX12_may_32 : decode cX12_may 32 = .ok (.iload_n 3, 1) := by decide +kernel
theorem dX12_may_33 : decode cX12_may 33 = .ok (.imul, 1) := by decide +kernel
theorem dX12_may_34 : decode cX12_may 34 = .ok (.iload_n 2, 1) := by decide +kernel
theorem dX12_may_35 : decode cX12_may 35 = .ok (.iadd, 1) := by decide +kernel
theorem dX12_may_36 : decode cX12_may 36 = .ok (.iload 4, 2) := by decide +kernel
theorem dX12_may_38 : decode cX12_may 38 = .ok (.invokevirtual 467, 3) := by decide +kernel
theorem dX12_may_41 : decode cX12_may 41 = .ok (.aload_n 0, 1) := by decide +kernel
theorem dX12_may_42 : decode cX12_may 42 = .ok (.getfield 461, 3) := by decide +kernel
theorem dX12_may_45 : decode cX12_may 45 = .ok (.ifCond .ne 7, 3) := by decide +kernel
theorem dX12_may_48 : decode cX12_may 48 = .ok (.iconst 0, 1) := by decide +kernel
theorem dX12_may_49 : decode cX12_may 49 = .ok (.goto 19, 3) := by decide +kernel
theorem dX12_may_52 : decode cX12_may 52 = .ok (.aload_n 0, 1) := by decide +kernel
theorem dX12_may_53 : decode cX12_may 53 = .ok (.getfield 461, 3) := by decide +kernel
theorem dX12_may_56 : decode cX12_may 56 = .ok (.aload_n 0, 1) := by decide +kernel
theorem dX12_may_57 : decode cX12_may 57 = .ok (.getfield 458, 3) := by decide +kernel
theorem dX12_may_60 : decode cX12_may 60 = .ok (.if_icmp .ne 7, 3) := by decide +kernel
theorem dX12_may_63 : decode cX12_may 63 = .ok (.iconst 2, 1) := by decide +kernel
theorem dX12_may_64 : decode cX12_may 64 = .ok (.goto 4, 3) := by decide +kernel
theorem dX12_may_67 : decode cX12_may 67 = .ok (.iconst 1, 1) := by decide +kernel
theorem dX12_may_68 : decode cX12_may 68 = .ok (.ireturn, 1) := by decide +kernel
theorem dX12_odds_0 : decode cX12_odds 0 = .ok (.aload_n 0, 1) := by decide +kernel
theorem dX12_odds_1 : decode cX12_odds 1 = .ok (.iload_n 1, 1) := by decide +kernel
theorem dX12_odds_2 : decode cX12_odds 2 = .ok (.invokevirtual 452, 3) := by decide +kernel
theorem dX12_odds_5 : decode cX12_odds 5 = .ok (.ifCond .eq 32, 3) := by decide +kernel
theorem dX12_odds_8 : decode cX12_odds 8 = .ok (.aload_n 0, 1) := by decide +kernel
theorem dX12_odds_9 : decode cX12_odds 9 = .ok (.iload_n 2, 1) := by decide +kernel
theorem dX12_odds_10 : decode cX12_odds 10 = .ok (.iload_n 3, 1) := by decide +kernel
theorem dX12_odds_11 : decode cX12_odds 11 = .ok (.invokevirtual 165, 3) := by decide +kernel
theorem dX12_odds_14 : decode cX12_odds 14 = .ok (.ifCond .eq 23, 3) := by decide +kernel
theorem dX12_odds_17 : decode cX12_odds 17 = .ok (.aload_n 0, 1) := by decide +kernel
theorem dX12_odds_18 : decode cX12_odds 18 = .ok (.iload 4, 2) := by decide +kernel
theorem dX12_odds_20 : decode cX12_odds 20 = .ok (.invokevirtual 410, 3) := by decide +kernel
theorem dX12_odds_23 : decode cX12_odds 23 = .ok (.ifCond .eq 14, 3) := by decide +kernel
theorem dX12_odds_26 : decode cX12_odds 26 = .ok (.iload 5, 2) := by decide +kernel
theorem dX12_odds_28 : decode cX12_odds 28 = .ok (.i2l, 1) := by decide +kernel
theorem dX12_odds_29 : decode cX12_odds 29 = .ok (.lconst 0, 1) := by decide +kernel
theorem dX12_odds_30 : decode cX12_odds 30 = .ok (.lconst 1, 1) := by decide +kernel
theorem dX12_odds_31 : decode cX12_odds 31 = .ok (.invokestatic 161, 3) := by decide +kernel
theorem dX12_odds_34 : decode cX12_odds 34 = .ok (.ifCond .ne 5, 3) := by decide +kernel
theorem dX12_odds_37 : decode cX12_odds 37 = .ok (.iconst (-1), 1) := by decide +kernel
theorem dX12_odds_38 : decode cX12_odds 38 = .ok (.ireturn, 1) := by decide +kernel
theorem dX12_odds_39 : decode cX12_odds 39 = .ok (.aload_n 0, 1) := by decide +kernel
theorem dX12_odds_40 : decode cX12_odds 40 = .ok (.iload_n 1, 1) := by decide +kernel
theorem dX12_odds_41 : decode cX12_odds 41 = .ok (.bipush 6, 2) := by decide +kernel
theorem dX12_odds_43 : decode cX12_odds 43 = .ok (.iload_n 3, 1) := by decide +kernel
theorem dX12_odds_44 : decode cX12_odds 44 = .ok (.imul, 1) := by decide +kernel
theorem dX12_odds_45 : decode cX12_odds 45 = .ok (.iload_n 2, 1) := by decide +kernel
theorem dX12_odds_46 : decode cX12_odds 46 = .ok (.iadd, 1) := by decide +kernel
theorem dX12_odds_47 : decode cX12_odds 47 = .ok (.iload 4, 2) := by decide +kernel
theorem dX12_odds_49 : decode cX12_odds 49 = .ok (.invokevirtual 467, 3) := by decide +kernel
theorem dX12_odds_52 : decode cX12_odds 52 = .ok (.aload_n 0, 1) := by decide +kernel
theorem dX12_odds_53 : decode cX12_odds 53 = .ok (.getfield 461, 3) := by decide +kernel
theorem dX12_odds_56 : decode cX12_odds 56 = .ok (.ifCond .ne 6, 3) := by decide +kernel
theorem dX12_odds_59 : decode cX12_odds 59 = .ok (.iload 5, 2) := by decide +kernel
theorem dX12_odds_61 : decode cX12_odds 61 = .ok (.ireturn, 1) := by decide +kernel
theorem dX12_odds_62 : decode cX12_odds 62 = .ok (.aload_n 0, 1) := by decide +kernel
theorem dX12_odds_63 : decode cX12_odds 63 = .ok (.getfield 461, 3) := by decide +kernel
theorem dX12_odds_66 : decode cX12_odds 66 = .ok (.aload_n 0, 1) := by decide +kernel
theorem dX12_odds_67 : decode cX12_odds 67 = .ok (.getfield 458, 3) := by decide +kernel
theorem dX12_odds_70 : decode cX12_odds 70 = .ok (.invokestatic 471, 3) := by decide +kernel
theorem dX12_odds_73 : decode cX12_odds 73 = .ok (.istore 6, 2) := by decide +kernel
theorem dX12_odds_75 : decode cX12_odds 75 = .ok (.iload 5, 2) := by decide +kernel
theorem dX12_odds_77 : decode cX12_odds 77 = .ok (.ifCond .ne 13, 3) := by decide +kernel
theorem dX12_odds_80 : decode cX12_odds 80 = .ok (.aload_n 0, 1) := by decide +kernel
theorem dX12_odds_81 : decode cX12_odds 81 = .ok (.getfield 461, 3) := by decide +kernel
theorem dX12_odds_84 : decode cX12_odds 84 = .ok (.iload 6, 2) := by decide +kernel
theorem dX12_odds_86 : decode cX12_odds 86 = .ok (.idiv, 1) := by decide +kernel
theorem dX12_odds_87 : decode cX12_odds 87 = .ok (.goto 10, 3) := by decide +kernel
theorem dX12_odds_90 : decode cX12_odds 90 = .ok (.aload_n 0, 1) := by decide +kernel
theorem dX12_odds_91 : decode cX12_odds 91 = .ok (.getfield 458, 3) := by decide +kernel
theorem dX12_odds_94 : decode cX12_odds 94 = .ok (.iload 6, 2) := by decide +kernel
theorem dX12_odds_96 : decode cX12_odds 96 = .ok (.idiv, 1) := by decide +kernel
theorem dX12_odds_97 : decode cX12_odds 97 = .ok (.ireturn, 1) := by decide +kernel
theorem dX12_laying_0 : decode cX12_laying 0 = .ok (.aload_n 0, 1) := by decide +kernel
theorem dX12_laying_1 : decode cX12_laying 1 = .ok (.iload_n 1, 1) := by decide +kernel
theorem dX12_laying_2 : decode cX12_laying 2 = .ok (.invokevirtual 452, 3) := by decide +kernel
theorem dX12_laying_5 : decode cX12_laying 5 = .ok (.ifCond .eq 19, 3) := by decide +kernel
theorem dX12_laying_8 : decode cX12_laying 8 = .ok (.iload_n 2, 1) := by decide +kernel
theorem dX12_laying_9 : decode cX12_laying 9 = .ok (.ifCond .lt 15, 3) := by decide +kernel
theorem dX12_laying_12 : decode cX12_laying 12 = .ok (.iload_n 3, 1) := by decide +kernel
theorem dX12_laying_13 : decode cX12_laying 13 = .ok (.i2l, 1) := by decide +kernel
theorem dX12_laying_14 : decode cX12_laying 14 = .ok (.lconst 0, 1) := by decide +kernel
theorem dX12_laying_15 : decode cX12_laying 15 = .ok (.ldc2_w 422, 3) := by decide +kernel
theorem dX12_laying_18 : decode cX12_laying 18 = .ok (.invokestatic 161, 3) := by decide +kernel
theorem dX12_laying_21 : decode cX12_laying 21 = .ok (.ifCond .ne 5, 3) := by decide +kernel
theorem dX12_laying_24 : decode cX12_laying 24 = .ok (.iconst (-1), 1) := by decide +kernel
theorem dX12_laying_25 : decode cX12_laying 25 = .ok (.ireturn, 1) := by decide +kernel
theorem dX12_laying_26 : decode cX12_laying 26 = .ok (.aload_n 0, 1) := by decide +kernel
theorem dX12_laying_27 : decode cX12_laying 27 = .ok (.invokevirtual 446, 3) := by decide +kernel
theorem dX12_laying_30 : decode cX12_laying 30 = .ok (.iload_n 3, 1) := by decide +kernel
theorem dX12_laying_31 : decode cX12_laying 31 = .ok (.aload_n 0, 1) := by decide +kernel
theorem dX12_laying_32 : decode cX12_laying 32 = .ok (.getfield 424, 3) := by decide +kernel
theorem dX12_laying_35 : decode cX12_laying 35 = .ok (.if_icmp .lt 6, 3) := by decide +kernel
theorem dX12_laying_38 : decode cX12_laying 38 = .ok (.bipush (-2), 2) := by decide +kernel
theorem dX12_laying_40 : decode cX12_laying 40 = .ok (.ireturn, 1) := by decide +kernel
theorem dX12_laying_41 : decode cX12_laying 41 = .ok (.iconst 0, 1) := by decide +kernel
theorem dX12_laying_42 : decode cX12_laying 42 = .ok (.istore 4, 2) := by decide +kernel
theorem dX12_laying_44 : decode cX12_laying 44 = .ok (.aload_n 0, 1) := by decide +kernel
theorem dX12_laying_45 : decode cX12_laying 45 = .ok (.iload_n 1, 1) := by decide +kernel
theorem dX12_laying_46 : decode cX12_laying 46 = .ok (.invokevirtual 449, 3) := by decide +kernel
theorem dX12_laying_49 : decode cX12_laying 49 = .ok (.ifCond .eq 22, 3) := by decide +kernel
theorem dX12_laying_52 : decode cX12_laying 52 = .ok (.iload 4, 2) := by decide +kernel
theorem dX12_laying_54 : decode cX12_laying 54 = .ok (.iload_n 2, 1) := by decide +kernel
theorem dX12_laying_55 : decode cX12_laying 55 = .ok (.if_icmp .ne 10, 3) := by decide +kernel
theorem dX12_laying_58 : decode cX12_laying 58 = .ok (.aload_n 0, 1) := by decide +kernel
theorem dX12_laying_59 : decode cX12_laying 59 = .ok (.getfield 109, 3) := by decide +kernel
theorem dX12_laying_62 : decode cX12_laying 62 = .ok (.iload_n 3, 1) := by decide +kernel
theorem dX12_laying_63 : decode cX12_laying 63 = .ok (.iaload, 1) := by decide +kernel
theorem dX12_laying_64 : decode cX12_laying 64 = .ok (.ireturn, 1) := by decide +kernel
theorem dX12_laying_65 : decode cX12_laying 65 = .ok (.iinc 4 1, 3) := by decide +kernel
theorem dX12_laying_68 : decode cX12_laying 68 = .ok (.goto (-24), 3) := by decide +kernel
theorem dX12_laying_71 : decode cX12_laying 71 = .ok (.bipush (-2), 2) := by decide +kernel
theorem dX12_laying_73 : decode cX12_laying 73 = .ok (.ireturn, 1) := by decide +kernel
theorem dX12_rows_0 : decode cX12_rows 0 = .ok (.aload_n 0, 1) := by decide +kernel
theorem dX12_rows_1 : decode cX12_rows 1 = .ok (.iload_n 1, 1) := by decide +kernel
theorem dX12_rows_2 : decode cX12_rows 2 = .ok (.invokevirtual 452, 3) := by decide +kernel
theorem dX12_rows_5 : decode cX12_rows 5 = .ok (.ifCond .eq 42, 3) := by decide +kernel
theorem dX12_rows_8 : decode cX12_rows 8 = .ok (.aload_n 0, 1) := by decide +kernel
theorem dX12_rows_9 : decode cX12_rows 9 = .ok (.iload_n 2, 1) := by decide +kernel
theorem dX12_rows_10 : decode cX12_rows 10 = .ok (.invokevirtual 410, 3) := by decide +kernel
theorem dX12_rows_13 : decode cX12_rows 13 = .ok (.ifCond .eq 34, 3) := by decide +kernel
theorem dX12_rows_16 : decode cX12_rows 16 = .ok (.iload_n 3, 1) := by decide +kernel
theorem dX12_rows_17 : decode cX12_rows 17 = .ok (.i2l, 1) := by decide +kernel
theorem dX12_rows_18 : decode cX12_rows 18 = .ok (.lconst 0, 1) := by decide +kernel
theorem dX12_rows_19 : decode cX12_rows 19 = .ok (.aload_n 0, 1) := by decide +kernel
theorem dX12_rows_20 : decode cX12_rows 20 = .ok (.getfield 7, 3) := by decide +kernel
theorem dX12_rows_23 : decode cX12_rows 23 = .ok (.iconst 1, 1) := by decide +kernel
theorem dX12_rows_24 : decode cX12_rows 24 = .ok (.iaload, 1) := by decide +kernel
theorem dX12_rows_25 : decode cX12_rows 25 = .ok (.iconst 1, 1) := by decide +kernel
theorem dX12_rows_26 : decode cX12_rows 26 = .ok (.isub, 1) := by decide +kernel
theorem dX12_rows_27 : decode cX12_rows 27 = .ok (.i2l, 1) := by decide +kernel
theorem dX12_rows_28 : decode cX12_rows 28 = .ok (.invokestatic 161, 3) := by decide +kernel
theorem dX12_rows_31 : decode cX12_rows 31 = .ok (.ifCond .eq 16, 3) := by decide +kernel
theorem dX12_rows_34 : decode cX12_rows 34 = .ok (.iload 4, 2) := by decide +kernel
theorem dX12_rows_36 : decode cX12_rows 36 = .ok (.i2l, 1) := by decide +kernel
theorem dX12_rows_37 : decode cX12_rows 37 = .ok (.lconst 0, 1) := by decide +kernel
theorem dX12_rows_38 : decode cX12_rows 38 = .ok (.ldc2_w 474, 3) := by decide +kernel
theorem dX12_rows_41 : decode cX12_rows 41 = .ok (.invokestatic 161, 3) := by decide +kernel
theorem dX12_rows_44 : decode cX12_rows 44 = .ok (.ifCond .ne 5, 3) := by decide +kernel
theorem dX12_rows_47 : decode cX12_rows 47 = .ok (.iconst (-1), 1) := by decide +kernel
theorem dX12_rows_48 : decode cX12_rows 48 = .ok (.ireturn, 1) := by decide +kernel
theorem dX12_rows_49 : decode cX12_rows 49 = .ok (.aload_n 0, 1) := by decide +kernel
theorem dX12_rows_50 : decode cX12_rows 50 = .ok (.invokevirtual 446, 3) := by decide +kernel
theorem dX12_rows_53 : decode cX12_rows 53 = .ok (.iconst 0, 1) := by decide +kernel
theorem dX12_rows_54 : decode cX12_rows 54 = .ok (.istore 5, 2) := by decide +kernel
theorem dX12_rows_56 : decode cX12_rows 56 = .ok (.aload_n 0, 1) := by decide +kernel
theorem dX12_rows_57 : decode cX12_rows 57 = .ok (.iload_n 1, 1) := by decide +kernel
theorem dX12_rows_58 : decode cX12_rows 58 = .ok (.invokevirtual 449, 3) := by decide +kernel
theorem dX12_rows_61 : decode cX12_rows 61 = .ok (.ifCond .eq 79, 3) := by decide +kernel
theorem dX12_rows_64 : decode cX12_rows 64 = .ok (.iconst 0, 1) := by decide +kernel
theorem dX12_rows_65 : decode cX12_rows 65 = .ok (.istore 6, 2) := by decide +kernel
theorem dX12_rows_67 : decode cX12_rows 67 = .ok (.iconst 0, 1) := by decide +kernel
theorem dX12_rows_68 : decode cX12_rows 68 = .ok (.istore 7, 2) := by decide +kernel
theorem dX12_rows_70 : decode cX12_rows 70 = .ok (.iload 7, 2) := by decide +kernel
theorem dX12_rows_72 : decode cX12_rows 72 = .ok (.aload_n 0, 1) := by decide +kernel
theorem dX12_rows_73 : decode cX12_rows 73 = .ok (.getfield 424, 3) := by decide +kernel
theorem dX12_rows_76 : decode cX12_rows 76 = .ok (.if_icmp .ge 44, 3) := by decide +kernel
theorem dX12_rows_79 : decode cX12_rows 79 = .ok (.iload 6, 2) := by decide +kernel
theorem dX12_rows_81 : decode cX12_rows 81 = .ok (.aload_n 0, 1) := by decide +kernel
theorem dX12_rows_82 : decode cX12_rows 82 = .ok (.getfield 112, 3) := by decide +kernel
theorem dX12_rows_85 : decode cX12_rows 85 = .ok (.iload 7, 2) := by decide +kernel
theorem dX12_rows_87 : decode cX12_rows 87 = .ok (.iaload, 1) := by decide +kernel
theorem dX12_rows_88 : decode cX12_rows 88 = .ok (.iload_n 2, 1) := by decide +kernel
theorem dX12_rows_89 : decode cX12_rows 89 = .ok (.if_icmp .ne 21, 3) := by decide +kernel
theorem dX12_rows_92 : decode cX12_rows 92 = .ok (.aload_n 0, 1) := by decide +kernel
theorem dX12_rows_93 : decode cX12_rows 93 = .ok (.getfield 109, 3) := by decide +kernel
theorem dX12_rows_96 : decode cX12_rows 96 = .ok (.iload 7, 2) := by decide +kernel
theorem dX12_rows_98 : decode cX12_rows 98 = .ok (.iaload, 1) := by decide +kernel
theorem dX12_rows_99 : decode cX12_rows 99 = .ok (.bipush 6, 2) := by decide +kernel
theorem dX12_rows_101 : decode cX12_rows 101 = .ok (.idiv, 1) := by decide +kernel
theorem dX12_rows_102 : decode cX12_rows 102 = .ok (.iload_n 3, 1) := by decide +kernel
theorem dX12_rows_103 : decode cX12_rows 103 = .ok (.if_icmp .ne 7, 3) := by decide +kernel
theorem dX12_rows_106 : decode cX12_rows 106 = .ok (.iconst 1, 1) := by decide +kernel
theorem dX12_rows_107 : decode cX12_rows 107 = .ok (.goto 4, 3) := by decide +kernel
theorem dX12_rows_110 : decode cX12_rows 110 = .ok (.iconst 0, 1) := by decide +kernel
theorem dX12_rows_111 : decode cX12_rows 111 = .ok (.iadd, 1) := by decide +kernel
theorem dX12_rows_112 : decode cX12_rows 112 = .ok (.istore 6, 2) := by decide +kernel
theorem dX12_rows_114 : decode cX12_rows 114 = .ok (.iinc 7 1, 3) := by decide +kernel
theorem dX12_rows_117 : decode cX12_rows 117 = .ok (.goto (-47), 3) := by decide +kernel
theorem dX12_rows_120 : decode cX12_rows 120 = .ok (.iload 5, 2) := by decide +kernel
theorem dX12_rows_122 : decode cX12_rows 122 = .ok (.iload 6, 2) := by decide +kernel
theorem dX12_rows_124 : decode cX12_rows 124 = .ok (.iload 4, 2) := by decide +kernel
theorem dX12_rows_126 : decode cX12_rows 126 = .ok (.if_icmp .ne 7, 3) := by decide +kernel
theorem dX12_rows_129 : decode cX12_rows 129 = .ok (.iconst 1, 1) := by decide +kernel
theorem dX12_rows_130 : decode cX12_rows 130 = .ok (.goto 4, 3) := by decide +kernel
theorem dX12_rows_133 : decode cX12_rows 133 = .ok (.iconst 0, 1) := by decide +kernel
theorem dX12_rows_134 : decode cX12_rows 134 = .ok (.iadd, 1) := by decide +kernel
theorem dX12_rows_135 : decode cX12_rows 135 = .ok (.istore 5, 2) := by decide +kernel
theorem dX12_rows_137 : decode cX12_rows 137 = .ok (.goto (-81), 3) := by decide +kernel
theorem dX12_rows_140 : decode cX12_rows 140 = .ok (.iload 5, 2) := by decide +kernel
theorem dX12_rows_142 : decode cX12_rows 142 = .ok (.ireturn, 1) := by decide +kernel
theorem dX12_fillsFitting_0 : decode cX12_fillsFitting 0 = .ok (.iconst 0, 1) := by decide +kernel
theorem dX12_fillsFitting_1 : decode cX12_fillsFitting 1 = .ok (.istore_n 2, 1) := by decide +kernel
theorem dX12_fillsFitting_2 : decode cX12_fillsFitting 2 = .ok (.iload_n 2, 1) := by decide +kernel
theorem dX12_fillsFitting_3 : decode cX12_fillsFitting 3 = .ok (.sipush 1024, 3) := by decide +kernel
theorem dX12_fillsFitting_6 : decode cX12_fillsFitting 6 = .ok (.if_icmp .ge 16, 3) := by decide +kernel
theorem dX12_fillsFitting_9 : decode cX12_fillsFitting 9 = .ok (.aload_n 0, 1) := by decide +kernel
theorem dX12_fillsFitting_10 : decode cX12_fillsFitting 10 = .ok (.getfield 127, 3) := by decide +kernel
theorem dX12_fillsFitting_13 : decode cX12_fillsFitting 13 = .ok (.iload_n 2, 1) := by decide +kernel
theorem dX12_fillsFitting_14 : decode cX12_fillsFitting 14 = .ok (.iconst 0, 1) := by decide +kernel
theorem dX12_fillsFitting_15 : decode cX12_fillsFitting 15 = .ok (.iastore, 1) := by decide +kernel
theorem dX12_fillsFitting_16 : decode cX12_fillsFitting 16 = .ok (.iinc 2 1, 3) := by decide +kernel
theorem dX12_fillsFitting_19 : decode cX12_fillsFitting 19 = .ok (.goto (-17), 3) := by decide +kernel
theorem dX12_fillsFitting_22 : decode cX12_fillsFitting 22 = .ok (.aload_n 0, 1) := by decide +kernel
theorem dX12_fillsFitting_23 : decode cX12_fillsFitting 23 = .ok (.invokevirtual 446, 3) := by decide +kernel
theorem dX12_fillsFitting_26 : decode cX12_fillsFitting 26 = .ok (.aload_n 0, 1) := by decide +kernel
theorem dX12_fillsFitting_27 : decode cX12_fillsFitting 27 = .ok (.invokevirtual 440, 3) := by decide +kernel
theorem dX12_fillsFitting_30 : decode cX12_fillsFitting 30 = .ok (.ifCond .eq 20, 3) := by decide +kernel
theorem dX12_fillsFitting_33 : decode cX12_fillsFitting 33 = .ok (.aload_n 0, 1) := by decide +kernel
theorem dX12_fillsFitting_34 : decode cX12_fillsFitting 34 = .ok (.getfield 127, 3) := by decide +kernel
theorem dX12_fillsFitting_37 : decode cX12_fillsFitting 37 = .ok (.aload_n 0, 1) := by decide +kernel
theorem dX12_fillsFitting_38 : decode cX12_fillsFitting 38 = .ok (.iload_n 1, 1) := by decide +kernel
theorem dX12_fillsFitting_39 : decode cX12_fillsFitting 39 = .ok (.invokevirtual 443, 3) := by decide +kernel
theorem dX12_fillsFitting_42 : decode cX12_fillsFitting 42 = .ok (.dup2, 1) := by decide +kernel
theorem dX12_fillsFitting_43 : decode cX12_fillsFitting 43 = .ok (.iaload, 1) := by decide +kernel
theorem dX12_fillsFitting_44 : decode cX12_fillsFitting 44 = .ok (.iconst 1, 1) := by decide +kernel
theorem dX12_fillsFitting_45 : decode cX12_fillsFitting 45 = .ok (.iadd, 1) := by decide +kernel
theorem dX12_fillsFitting_46 : decode cX12_fillsFitting 46 = .ok (.iastore, 1) := by decide +kernel
theorem dX12_fillsFitting_47 : decode cX12_fillsFitting 47 = .ok (.goto (-21), 3) := by decide +kernel
theorem dX12_fillsFitting_50 : decode cX12_fillsFitting 50 = .ok (.iconst 0, 1) := by decide +kernel
theorem dX12_fillsFitting_51 : decode cX12_fillsFitting 51 = .ok (.istore_n 2, 1) := by decide +kernel
theorem dX12_fillsFitting_52 : decode cX12_fillsFitting 52 = .ok (.iload_n 2, 1) := by decide +kernel
theorem dX12_fillsFitting_53 : decode cX12_fillsFitting 53 = .ok (.bipush 10, 2) := by decide +kernel
theorem dX12_fillsFitting_55 : decode cX12_fillsFitting 55 = .ok (.if_icmp .ge 56, 3) := by decide +kernel
theorem dX12_fillsFitting_58 : decode cX12_fillsFitting 58 = .ok (.iconst 0, 1) := by decide +kernel
theorem dX12_fillsFitting_59 : decode cX12_fillsFitting 59 = .ok (.istore_n 3, 1) := by decide +kernel
theorem dX12_fillsFitting_60 : decode cX12_fillsFitting 60 = .ok (.iload_n 3, 1) := by decide +kernel
theorem dX12_fillsFitting_61 : decode cX12_fillsFitting 61 = .ok (.sipush 1024, 3) := by decide +kernel
theorem dX12_fillsFitting_64 : decode cX12_fillsFitting 64 = .ok (.if_icmp .ge 41, 3) := by decide +kernel
theorem dX12_fillsFitting_67 : decode cX12_fillsFitting 67 = .ok (.aload_n 0, 1) := by decide +kernel
theorem dX12_fillsFitting_68 : decode cX12_fillsFitting 68 = .ok (.getfield 127, 3) := by decide +kernel
theorem dX12_fillsFitting_71 : decode cX12_fillsFitting 71 = .ok (.iload_n 3, 1) := by decide +kernel
theorem dX12_fillsFitting_72 : decode cX12_fillsFitting 72 = .ok (.dup2, 1) := by decide +kernel
theorem dX12_fillsFitting_73 : decode cX12_fillsFitting 73 = .ok (.iaload, 1) := by decide +kernel
theorem dX12_fillsFitting_74 : decode cX12_fillsFitting 74 = .ok (.iload_n 3, 1) := by decide +kernel
theorem dX12_fillsFitting_75 : decode cX12_fillsFitting 75 = .ok (.i2l, 1) := by decide +kernel
theorem dX12_fillsFitting_76 : decode cX12_fillsFitting 76 = .ok (.iload_n 2, 1) := by decide +kernel
theorem dX12_fillsFitting_77 : decode cX12_fillsFitting 77 = .ok (.invokestatic 211, 3) := by decide +kernel
theorem dX12_fillsFitting_80 : decode cX12_fillsFitting 80 = .ok (.ifCond .eq 7, 3) := by decide +kernel
theorem dX12_fillsFitting_83 : decode cX12_fillsFitting 83 = .ok (.iconst 0, 1) := by decide +kernel
theorem dX12_fillsFitting_84 : decode cX12_fillsFitting 84 = .ok (.goto 13, 3) := by decide +kernel
theorem dX12_fillsFitting_87 : decode cX12_fillsFitting 87 = .ok (.aload_n 0, 1) := by decide +kernel
theorem dX12_fillsFitting_88 : decode cX12_fillsFitting 88 = .ok (.getfield 127, 3) := by decide +kernel
theorem dX12_fillsFitting_91 : decode cX12_fillsFitting 91 = .ok (.iload_n 3, 1) := by decide +kernel
theorem dX12_fillsFitting_92 : decode cX12_fillsFitting 92 = .ok (.iconst 1, 1) := by decide +kernel
theorem dX12_fillsFitting_93 : decode cX12_fillsFitting 93 = .ok (.iload_n 2, 1) := by decide +kernel
theorem dX12_fillsFitting_94 : decode cX12_fillsFitting 94 = .ok (.ishl, 1) := by decide +kernel
theorem dX12_fillsFitting_95 : decode cX12_fillsFitting 95 = .ok (.ior, 1) := by decide +kernel
theorem dX12_fillsFitting_96 : decode cX12_fillsFitting 96 = .ok (.iaload, 1) := by decide +kernel
theorem dX12_fillsFitting_97 : decode cX12_fillsFitting 97 = .ok (.iadd, 1) := by decide +kernel
theorem dX12_fillsFitting_98 : decode cX12_fillsFitting 98 = .ok (.iastore, 1) := by decide +kernel
theorem dX12_fillsFitting_99 : decode cX12_fillsFitting 99 = .ok (.iinc 3 1, 3) := by decide +kernel
theorem dX12_fillsFitting_102 : decode cX12_fillsFitting 102 = .ok (.goto (-42), 3) := by decide +kernel
theorem dX12_fillsFitting_105 : decode cX12_fillsFitting 105 = .ok (.iinc 2 1, 3) := by decide +kernel
theorem dX12_fillsFitting_108 : decode cX12_fillsFitting 108 = .ok (.goto (-56), 3) := by decide +kernel
theorem dX12_fillsFitting_111 : decode cX12_fillsFitting 111 = .ok (.return_, 1) := by decide +kernel
theorem dX12_news_0 : decode cX12_news 0 = .ok (.aload_n 0, 1) := by decide +kernel
theorem dX12_news_1 : decode cX12_news 1 = .ok (.iload_n 1, 1) := by decide +kernel
theorem dX12_news_2 : decode cX12_news 2 = .ok (.invokevirtual 452, 3) := by decide +kernel
theorem dX12_news_5 : decode cX12_news 5 = .ok (.ifCond .eq 30, 3) := by decide +kernel
theorem dX12_news_8 : decode cX12_news 8 = .ok (.iload_n 2, 1) := by decide +kernel
theorem dX12_news_9 : decode cX12_news 9 = .ok (.i2l, 1) := by decide +kernel
theorem dX12_news_10 : decode cX12_news 10 = .ok (.lconst 0, 1) := by decide +kernel
theorem dX12_news_11 : decode cX12_news 11 = .ok (.aload_n 0, 1) := by decide +kernel
theorem dX12_news_12 : decode cX12_news 12 = .ok (.getfield 7, 3) := by decide +kernel
theorem dX12_news_15 : decode cX12_news 15 = .ok (.iconst 5, 1) := by decide +kernel
theorem dX12_news_16 : decode cX12_news 16 = .ok (.iaload, 1) := by decide +kernel
theorem dX12_news_17 : decode cX12_news 17 = .ok (.iconst 1, 1) := by decide +kernel
theorem dX12_news_18 : decode cX12_news 18 = .ok (.isub, 1) := by decide +kernel
theorem dX12_news_19 : decode cX12_news 19 = .ok (.i2l, 1) := by decide +kernel
theorem dX12_news_20 : decode cX12_news 20 = .ok (.invokestatic 161, 3) := by decide +kernel
theorem dX12_news_23 : decode cX12_news 23 = .ok (.ifCond .eq 12, 3) := by decide +kernel
theorem dX12_news_26 : decode cX12_news 26 = .ok (.iload_n 1, 1) := by decide +kernel
theorem dX12_news_27 : decode cX12_news 27 = .ok (.i2l, 1) := by decide +kernel
theorem dX12_news_28 : decode cX12_news 28 = .ok (.iload_n 2, 1) := by decide +kernel
theorem dX12_news_29 : decode cX12_news 29 = .ok (.invokestatic 211, 3) := by decide +kernel
theorem dX12_news_32 : decode cX12_news 32 = .ok (.ifCond .ne 5, 3) := by decide +kernel
theorem dX12_news_35 : decode cX12_news 35 = .ok (.iconst (-1), 1) := by decide +kernel
theorem dX12_news_36 : decode cX12_news 36 = .ok (.ireturn, 1) := by decide +kernel
theorem dX12_news_37 : decode cX12_news 37 = .ok (.aload_n 0, 1) := by decide +kernel
theorem dX12_news_38 : decode cX12_news 38 = .ok (.iload_n 1, 1) := by decide +kernel
theorem dX12_news_39 : decode cX12_news 39 = .ok (.invokevirtual 476, 3) := by decide +kernel
theorem dX12_news_42 : decode cX12_news 42 = .ok (.aload_n 0, 1) := by decide +kernel
theorem dX12_news_43 : decode cX12_news 43 = .ok (.getfield 127, 3) := by decide +kernel
theorem dX12_news_46 : decode cX12_news 46 = .ok (.iload_n 1, 1) := by decide +kernel
theorem dX12_news_47 : decode cX12_news 47 = .ok (.iconst 1, 1) := by decide +kernel
theorem dX12_news_48 : decode cX12_news 48 = .ok (.iload_n 2, 1) := by decide +kernel
theorem dX12_news_49 : decode cX12_news 49 = .ok (.ishl, 1) := by decide +kernel
theorem dX12_news_50 : decode cX12_news 50 = .ok (.iconst (-1), 1) := by decide +kernel
theorem dX12_news_51 : decode cX12_news 51 = .ok (.ixor, 1) := by decide +kernel
theorem dX12_news_52 : decode cX12_news 52 = .ok (.iand, 1) := by decide +kernel
theorem dX12_news_53 : decode cX12_news 53 = .ok (.iaload, 1) := by decide +kernel
theorem dX12_news_54 : decode cX12_news 54 = .ok (.aload_n 0, 1) := by decide +kernel
theorem dX12_news_55 : decode cX12_news 55 = .ok (.getfield 127, 3) := by decide +kernel
theorem dX12_news_58 : decode cX12_news 58 = .ok (.iload_n 1, 1) := by decide +kernel
theorem dX12_news_59 : decode cX12_news 59 = .ok (.iaload, 1) := by decide +kernel
theorem dX12_news_60 : decode cX12_news 60 = .ok (.if_icmp .le 7, 3) := by decide +kernel
theorem dX12_news_63 : decode cX12_news 63 = .ok (.iconst 1, 1) := by decide +kernel
theorem dX12_news_64 : decode cX12_news 64 = .ok (.goto 4, 3) := by decide +kernel
theorem dX12_news_67 : decode cX12_news 67 = .ok (.iconst 0, 1) := by decide +kernel
theorem dX12_news_68 : decode cX12_news 68 = .ok (.ireturn, 1) := by decide +kernel
theorem dX12_quarrel_0 : decode cX12_quarrel 0 = .ok (.iload_n 1, 1) := by decide +kernel
theorem dX12_quarrel_1 : decode cX12_quarrel 1 = .ok (.i2l, 1) := by decide +kernel
theorem dX12_quarrel_2 : decode cX12_quarrel 2 = .ok (.lconst 0, 1) := by decide +kernel
theorem dX12_quarrel_3 : decode cX12_quarrel 3 = .ok (.aload_n 0, 1) := by decide +kernel
theorem dX12_quarrel_4 : decode cX12_quarrel 4 = .ok (.getfield 7, 3) := by decide +kernel
theorem dX12_quarrel_7 : decode cX12_quarrel 7 = .ok (.iconst 5, 1) := by decide +kernel
theorem dX12_quarrel_8 : decode cX12_quarrel 8 = .ok (.iaload, 1) := by decide +kernel
theorem dX12_quarrel_9 : decode cX12_quarrel 9 = .ok (.iconst 1, 1) := by decide +kernel
theorem dX12_quarrel_10 : decode cX12_quarrel 10 = .ok (.isub, 1) := by decide +kernel
theorem dX12_quarrel_11 : decode cX12_quarrel 11 = .ok (.i2l, 1) := by decide +kernel
theorem dX12_quarrel_12 : decode cX12_quarrel 12 = .ok (.invokestatic 161, 3) := by decide +kernel
theorem dX12_quarrel_15 : decode cX12_quarrel 15 = .ok (.ifCond .eq 26, 3) := by decide +kernel
theorem dX12_quarrel_18 : decode cX12_quarrel 18 = .ok (.iload_n 2, 1) := by decide +kernel
theorem dX12_quarrel_19 : decode cX12_quarrel 19 = .ok (.i2l, 1) := by decide +kernel
theorem dX12_quarrel_20 : decode cX12_quarrel 20 = .ok (.lconst 0, 1) := by decide +kernel
theorem dX12_quarrel_21 : decode cX12_quarrel 21 = .ok (.aload_n 0, 1) := by decide +kernel
theorem dX12_quarrel_22 : decode cX12_quarrel 22 = .ok (.getfield 7, 3) := by decide +kernel
theorem dX12_quarrel_25 : decode cX12_quarrel 25 = .ok (.iconst 5, 1) := by decide +kernel
theorem dX12_quarrel_26 : decode cX12_quarrel 26 = .ok (.iaload, 1) := by decide +kernel
theorem dX12_quarrel_27 : decode cX12_quarrel 27 = .ok (.iconst 1, 1) := by decide +kernel
theorem dX12_quarrel_28 : decode cX12_quarrel 28 = .ok (.isub, 1) := by decide +kernel
theorem dX12_quarrel_29 : decode cX12_quarrel 29 = .ok (.i2l, 1) := by decide +kernel
theorem dX12_quarrel_30 : decode cX12_quarrel 30 = .ok (.invokestatic 161, 3) := by decide +kernel
theorem dX12_quarrel_33 : decode cX12_quarrel 33 = .ok (.ifCond .eq 8, 3) := by decide +kernel
theorem dX12_quarrel_36 : decode cX12_quarrel 36 = .ok (.iload_n 1, 1) := by decide +kernel
theorem dX12_quarrel_37 : decode cX12_quarrel 37 = .ok (.iload_n 2, 1) := by decide +kernel
theorem dX12_quarrel_38 : decode cX12_quarrel 38 = .ok (.if_icmp .ne 5, 3) := by decide +kernel
theorem dX12_quarrel_41 : decode cX12_quarrel 41 = .ok (.iconst (-1), 1) := by decide +kernel
theorem dX12_quarrel_42 : decode cX12_quarrel 42 = .ok (.ireturn, 1) := by decide +kernel
theorem dX12_quarrel_43 : decode cX12_quarrel 43 = .ok (.iconst 1, 1) := by decide +kernel
theorem dX12_quarrel_44 : decode cX12_quarrel 44 = .ok (.iload_n 1, 1) := by decide +kernel
theorem dX12_quarrel_45 : decode cX12_quarrel 45 = .ok (.ishl, 1) := by decide +kernel
theorem dX12_quarrel_46 : decode cX12_quarrel 46 = .ok (.iconst 1, 1) := by decide +kernel
theorem dX12_quarrel_47 : decode cX12_quarrel 47 = .ok (.iload_n 2, 1) := by decide +kernel
theorem dX12_quarrel_48 : decode cX12_quarrel 48 = .ok (.ishl, 1) := by decide +kernel
theorem dX12_quarrel_49 : decode cX12_quarrel 49 = .ok (.ior, 1) := by decide +kernel
theorem dX12_quarrel_50 : decode cX12_quarrel 50 = .ok (.istore_n 3, 1) := by decide +kernel
theorem dX12_quarrel_51 : decode cX12_quarrel 51 = .ok (.aload_n 0, 1) := by decide +kernel
theorem dX12_quarrel_52 : decode cX12_quarrel 52 = .ok (.iload_n 3, 1) := by decide +kernel
theorem dX12_quarrel_53 : decode cX12_quarrel 53 = .ok (.invokevirtual 476, 3) := by decide +kernel
theorem dX12_quarrel_56 : decode cX12_quarrel 56 = .ok (.aload_n 0, 1) := by decide +kernel
theorem dX12_quarrel_57 : decode cX12_quarrel 57 = .ok (.getfield 127, 3) := by decide +kernel
theorem dX12_quarrel_60 : decode cX12_quarrel 60 = .ok (.iconst 1, 1) := by decide +kernel
theorem dX12_quarrel_61 : decode cX12_quarrel 61 = .ok (.iload_n 1, 1) := by decide +kernel
theorem dX12_quarrel_62 : decode cX12_quarrel 62 = .ok (.ishl, 1) := by decide +kernel
theorem dX12_quarrel_63 : decode cX12_quarrel 63 = .ok (.iaload, 1) := by decide +kernel
theorem dX12_quarrel_64 : decode cX12_quarrel 64 = .ok (.ifCond .le 27, 3) := by decide +kernel
theorem dX12_quarrel_67 : decode cX12_quarrel 67 = .ok (.aload_n 0, 1) := by decide +kernel
theorem dX12_quarrel_68 : decode cX12_quarrel 68 = .ok (.getfield 127, 3) := by decide +kernel
theorem dX12_quarrel_71 : decode cX12_quarrel 71 = .ok (.iconst 1, 1) := by decide +kernel
theorem dX12_quarrel_72 : decode cX12_quarrel 72 = .ok (.iload_n 2, 1) := by decide +kernel
theorem dX12_quarrel_73 : decode cX12_quarrel 73 = .ok (.ishl, 1) := by decide +kernel
theorem dX12_quarrel_74 : decode cX12_quarrel 74 = .ok (.iaload, 1) := by decide +kernel
theorem dX12_quarrel_75 : decode cX12_quarrel 75 = .ok (.ifCond .le 16, 3) := by decide +kernel
theorem dX12_quarrel_78 : decode cX12_quarrel 78 = .ok (.aload_n 0, 1) := by decide +kernel
theorem dX12_quarrel_79 : decode cX12_quarrel 79 = .ok (.getfield 127, 3) := by decide +kernel
theorem dX12_quarrel_82 : decode cX12_quarrel 82 = .ok (.iload_n 3, 1) := by decide +kernel
theorem dX12_quarrel_83 : decode cX12_quarrel 83 = .ok (.iaload, 1) := by decide +kernel
theorem dX12_quarrel_84 : decode cX12_quarrel 84 = .ok (.ifCond .ne 7, 3) := by decide +kernel
theorem dX12_quarrel_87 : decode cX12_quarrel 87 = .ok (.iconst 1, 1) := by decide +kernel
theorem dX12_quarrel_88 : decode cX12_quarrel 88 = .ok (.goto 4, 3) := by decide +kernel
theorem dX12_quarrel_91 : decode cX12_quarrel 91 = .ok (.iconst 0, 1) := by decide +kernel
theorem dX12_quarrel_92 : decode cX12_quarrel 92 = .ok (.ireturn, 1) := by decide +kernel
theorem dX12_least_0 : decode cX12_least 0 = .ok (.aload_n 0, 1) := by decide +kernel
theorem dX12_least_1 : decode cX12_least 1 = .ok (.iload_n 1, 1) := by decide +kernel
theorem dX12_least_2 : decode cX12_least 2 = .ok (.invokevirtual 452, 3) := by decide +kernel
theorem dX12_least_5 : decode cX12_least 5 = .ok (.ifCond .ne 5, 3) := by decide +kernel
theorem dX12_least_8 : decode cX12_least 8 = .ok (.iconst (-1), 1) := by decide +kernel
theorem dX12_least_9 : decode cX12_least 9 = .ok (.ireturn, 1) := by decide +kernel
theorem dX12_least_10 : decode cX12_least 10 = .ok (.aload_n 0, 1) := by decide +kernel
theorem dX12_least_11 : decode cX12_least 11 = .ok (.iload_n 1, 1) := by decide +kernel
theorem dX12_least_12 : decode cX12_least 12 = .ok (.invokevirtual 476, 3) := by decide +kernel
theorem dX12_least_15 : decode cX12_least 15 = .ok (.iload_n 1, 1) := by decide +kernel
theorem dX12_least_16 : decode cX12_least 16 = .ok (.istore_n 2, 1) := by decide +kernel
theorem dX12_least_17 : decode cX12_least 17 = .ok (.iconst 0, 1) := by decide +kernel
theorem dX12_least_18 : decode cX12_least 18 = .ok (.istore_n 3, 1) := by decide +kernel
theorem dX12_least_19 : decode cX12_least 19 = .ok (.iload_n 3, 1) := by decide +kernel
theorem dX12_least_20 : decode cX12_least 20 = .ok (.sipush 1024, 3) := by decide +kernel
theorem dX12_least_23 : decode cX12_least 23 = .ok (.if_icmp .ge 77, 3) := by decide +kernel
theorem dX12_least_26 : decode cX12_least 26 = .ok (.iload_n 3, 1) := by decide +kernel
theorem dX12_least_27 : decode cX12_least 27 = .ok (.iload_n 1, 1) := by decide +kernel
theorem dX12_least_28 : decode cX12_least 28 = .ok (.iconst (-1), 1) := by decide +kernel
theorem dX12_least_29 : decode cX12_least 29 = .ok (.ixor, 1) := by decide +kernel
theorem dX12_least_30 : decode cX12_least 30 = .ok (.iand, 1) := by decide +kernel
theorem dX12_least_31 : decode cX12_least 31 = .ok (.ifCond .ne 22, 3) := by decide +kernel
theorem dX12_least_34 : decode cX12_least 34 = .ok (.aload_n 0, 1) := by decide +kernel
theorem dX12_least_35 : decode cX12_least 35 = .ok (.getfield 127, 3) := by decide +kernel
theorem dX12_least_38 : decode cX12_least 38 = .ok (.iload_n 3, 1) := by decide +kernel
theorem dX12_least_39 : decode cX12_least 39 = .ok (.iaload, 1) := by decide +kernel
theorem dX12_least_40 : decode cX12_least 40 = .ok (.aload_n 0, 1) := by decide +kernel
theorem dX12_least_41 : decode cX12_least 41 = .ok (.getfield 127, 3) := by decide +kernel
theorem dX12_least_44 : decode cX12_least 44 = .ok (.iload_n 1, 1) := by decide +kernel
theorem dX12_least_45 : decode cX12_least 45 = .ok (.iaload, 1) := by decide +kernel
theorem dX12_least_46 : decode cX12_least 46 = .ok (.if_icmp .ne 7, 3) := by decide +kernel
theorem dX12_least_49 : decode cX12_least 49 = .ok (.iconst 1, 1) := by decide +kernel
theorem dX12_least_50 : decode cX12_least 50 = .ok (.goto 4, 3) := by decide +kernel
theorem dX12_least_53 : decode cX12_least 53 = .ok (.iconst 0, 1) := by decide +kernel
theorem dX12_least_54 : decode cX12_least 54 = .ok (.istore 4, 2) := by decide +kernel
theorem dX12_least_56 : decode cX12_least 56 = .ok (.iload 4, 2) := by decide +kernel
theorem dX12_least_58 : decode cX12_least 58 = .ok (.ifCond .eq 34, 3) := by decide +kernel
theorem dX12_least_61 : decode cX12_least 61 = .ok (.iload_n 3, 1) := by decide +kernel
theorem dX12_least_62 : decode cX12_least 62 = .ok (.invokestatic 479, 3) := by decide +kernel
theorem dX12_least_65 : decode cX12_least 65 = .ok (.iload_n 2, 1) := by decide +kernel
theorem dX12_least_66 : decode cX12_least 66 = .ok (.invokestatic 479, 3) := by decide +kernel
theorem dX12_least_69 : decode cX12_least 69 = .ok (.if_icmp .lt 19, 3) := by decide +kernel
theorem dX12_least_72 : decode cX12_least 72 = .ok (.iload_n 3, 1) := by decide +kernel
theorem dX12_least_73 : decode cX12_least 73 = .ok (.invokestatic 479, 3) := by decide +kernel
theorem dX12_least_76 : decode cX12_least 76 = .ok (.iload_n 2, 1) := by decide +kernel
theorem dX12_least_77 : decode cX12_least 77 = .ok (.invokestatic 479, 3) := by decide +kernel
theorem dX12_least_80 : decode cX12_least 80 = .ok (.if_icmp .ne 12, 3) := by decide +kernel
theorem dX12_least_83 : decode cX12_least 83 = .ok (.iload_n 3, 1) := by decide +kernel
theorem dX12_least_84 : decode cX12_least 84 = .ok (.iload_n 2, 1) := by decide +kernel
theorem dX12_least_85 : decode cX12_least 85 = .ok (.if_icmp .ge 7, 3) := by decide +kernel
theorem dX12_least_88 : decode cX12_least 88 = .ok (.iload_n 3, 1) := by decide +kernel
theorem dX12_least_89 : decode cX12_least 89 = .ok (.goto 4, 3) := by decide +kernel
theorem dX12_least_92 : decode cX12_least 92 = .ok (.iload_n 2, 1) := by decide +kernel
theorem dX12_least_93 : decode cX12_least 93 = .ok (.istore_n 2, 1) := by decide +kernel
theorem dX12_least_94 : decode cX12_least 94 = .ok (.iinc 3 1, 3) := by decide +kernel
theorem dX12_least_97 : decode cX12_least 97 = .ok (.goto (-78), 3) := by decide +kernel
theorem dX12_least_100 : decode cX12_least 100 = .ok (.iload_n 2, 1) := by decide +kernel
theorem dX12_least_101 : decode cX12_least 101 = .ok (.ireturn, 1) := by decide +kernel
theorem dX12_careless_0 : decode cX12_careless 0 = .ok (.aload_n 0, 1) := by decide +kernel
theorem dX12_careless_1 : decode cX12_careless 1 = .ok (.iload_n 1, 1) := by decide +kernel
theorem dX12_careless_2 : decode cX12_careless 2 = .ok (.invokevirtual 452, 3) := by decide +kernel
theorem dX12_careless_5 : decode cX12_careless 5 = .ok (.ifCond .ne 5, 3) := by decide +kernel
theorem dX12_careless_8 : decode cX12_careless 8 = .ok (.iconst (-1), 1) := by decide +kernel
theorem dX12_careless_9 : decode cX12_careless 9 = .ok (.ireturn, 1) := by decide +kernel
theorem dX12_careless_10 : decode cX12_careless 10 = .ok (.aload_n 0, 1) := by decide +kernel
theorem dX12_careless_11 : decode cX12_careless 11 = .ok (.iload_n 1, 1) := by decide +kernel
theorem dX12_careless_12 : decode cX12_careless 12 = .ok (.invokevirtual 476, 3) := by decide +kernel
theorem dX12_careless_15 : decode cX12_careless 15 = .ok (.bipush (-2), 2) := by decide +kernel
theorem dX12_careless_17 : decode cX12_careless 17 = .ok (.istore_n 2, 1) := by decide +kernel
theorem dX12_careless_18 : decode cX12_careless 18 = .ok (.iconst 0, 1) := by decide +kernel
theorem dX12_careless_19 : decode cX12_careless 19 = .ok (.istore_n 3, 1) := by decide +kernel
theorem dX12_careless_20 : decode cX12_careless 20 = .ok (.iload_n 3, 1) := by decide +kernel
theorem dX12_careless_21 : decode cX12_careless 21 = .ok (.sipush 1024, 3) := by decide +kernel
theorem dX12_careless_24 : decode cX12_careless 24 = .ok (.if_icmp .ge 65, 3) := by decide +kernel
theorem dX12_careless_27 : decode cX12_careless 27 = .ok (.iload_n 3, 1) := by decide +kernel
theorem dX12_careless_28 : decode cX12_careless 28 = .ok (.iload_n 1, 1) := by decide +kernel
theorem dX12_careless_29 : decode cX12_careless 29 = .ok (.iconst (-1), 1) := by decide +kernel
theorem dX12_careless_30 : decode cX12_careless 30 = .ok (.ixor, 1) := by decide +kernel
theorem dX12_careless_31 : decode cX12_careless 31 = .ok (.iand, 1) := by decide +kernel
theorem dX12_careless_32 : decode cX12_careless 32 = .ok (.ifCond .ne 20, 3) := by decide +kernel
theorem dX12_careless_35 : decode cX12_careless 35 = .ok (.aload_n 0, 1) := by decide +kernel
theorem dX12_careless_36 : decode cX12_careless 36 = .ok (.getfield 127, 3) := by decide +kernel
theorem dX12_careless_39 : decode cX12_careless 39 = .ok (.iload_n 1, 1) := by decide +kernel
theorem dX12_careless_40 : decode cX12_careless 40 = .ok (.iload_n 3, 1) := by decide +kernel
theorem dX12_careless_41 : decode cX12_careless 41 = .ok (.iconst (-1), 1) := by decide +kernel
theorem dX12_careless_42 : decode cX12_careless 42 = .ok (.ixor, 1) := by decide +kernel
theorem dX12_careless_43 : decode cX12_careless 43 = .ok (.iand, 1) := by decide +kernel
theorem dX12_careless_44 : decode cX12_careless 44 = .ok (.iaload, 1) := by decide +kernel
theorem dX12_careless_45 : decode cX12_careless 45 = .ok (.ifCond .le 7, 3) := by decide +kernel
theorem dX12_careless_48 : decode cX12_careless 48 = .ok (.iconst 1, 1) := by decide +kernel
theorem dX12_careless_49 : decode cX12_careless 49 = .ok (.goto 4, 3) := by decide +kernel
theorem dX12_careless_52 : decode cX12_careless 52 = .ok (.iconst 0, 1) := by decide +kernel
theorem dX12_careless_53 : decode cX12_careless 53 = .ok (.istore 4, 2) := by decide +kernel
theorem dX12_careless_55 : decode cX12_careless 55 = .ok (.iload 4, 2) := by decide +kernel
theorem dX12_careless_57 : decode cX12_careless 57 = .ok (.ifCond .eq 24, 3) := by decide +kernel
theorem dX12_careless_60 : decode cX12_careless 60 = .ok (.iload_n 2, 1) := by decide +kernel
theorem dX12_careless_61 : decode cX12_careless 61 = .ok (.bipush (-2), 2) := by decide +kernel
theorem dX12_careless_63 : decode cX12_careless 63 = .ok (.if_icmp .eq 14, 3) := by decide +kernel
theorem dX12_careless_66 : decode cX12_careless 66 = .ok (.iload_n 3, 1) := by decide +kernel
theorem dX12_careless_67 : decode cX12_careless 67 = .ok (.invokestatic 479, 3) := by decide +kernel
theorem dX12_careless_70 : decode cX12_careless 70 = .ok (.iload_n 2, 1) := by decide +kernel
theorem dX12_careless_71 : decode cX12_careless 71 = .ok (.invokestatic 479, 3) := by decide +kernel
theorem dX12_careless_74 : decode cX12_careless 74 = .ok (.if_icmp .ge 7, 3) := by decide +kernel
theorem dX12_careless_77 : decode cX12_careless 77 = .ok (.iload_n 3, 1) := by decide +kernel
theorem dX12_careless_78 : decode cX12_careless 78 = .ok (.goto 4, 3) := by decide +kernel
theorem dX12_careless_81 : decode cX12_careless 81 = .ok (.iload_n 2, 1) := by decide +kernel
theorem dX12_careless_82 : decode cX12_careless 82 = .ok (.istore_n 2, 1) := by decide +kernel
theorem dX12_careless_83 : decode cX12_careless 83 = .ok (.iinc 3 1, 3) := by decide +kernel
theorem dX12_careless_86 : decode cX12_careless 86 = .ok (.goto (-66), 3) := by decide +kernel
theorem dX12_careless_89 : decode cX12_careless 89 = .ok (.iload_n 2, 1) := by decide +kernel
theorem dX12_careless_90 : decode cX12_careless 90 = .ok (.ireturn, 1) := by decide +kernel
theorem dX12_notesBy_0 : decode cX12_notesBy 0 = .ok (.iconst 0, 1) := by decide +kernel
theorem dX12_notesBy_1 : decode cX12_notesBy 1 = .ok (.istore_n 3, 1) := by decide +kernel
theorem dX12_notesBy_2 : decode cX12_notesBy 2 = .ok (.iconst 0, 1) := by decide +kernel
theorem dX12_notesBy_3 : decode cX12_notesBy 3 = .ok (.istore 4, 2) := by decide +kernel
theorem dX12_notesBy_5 : decode cX12_notesBy 5 = .ok (.iload 4, 2) := by decide +kernel
theorem dX12_notesBy_7 : decode cX12_notesBy 7 = .ok (.aload_n 0, 1) := by decide +kernel
theorem dX12_notesBy_8 : decode cX12_notesBy 8 = .ok (.getfield 7, 3) := by decide +kernel
theorem dX12_notesBy_11 : decode cX12_notesBy 11 = .ok (.iconst 5, 1) := by decide +kernel
theorem dX12_notesBy_12 : decode cX12_notesBy 12 = .ok (.iaload, 1) := by decide +kernel
theorem dX12_notesBy_13 : decode cX12_notesBy 13 = .ok (.if_icmp .ge 45, 3) := by decide +kernel
theorem dX12_notesBy_16 : decode cX12_notesBy 16 = .ok (.iload_n 3, 1) := by decide +kernel
theorem dX12_notesBy_17 : decode cX12_notesBy 17 = .ok (.iload_n 1, 1) := by decide +kernel
theorem dX12_notesBy_18 : decode cX12_notesBy 18 = .ok (.i2l, 1) := by decide +kernel
theorem dX12_notesBy_19 : decode cX12_notesBy 19 = .ok (.iload 4, 2) := by decide +kernel
theorem dX12_notesBy_21 : decode cX12_notesBy 21 = .ok (.invokestatic 211, 3) := by decide +kernel
theorem dX12_notesBy_24 : decode cX12_notesBy 24 = .ok (.ifCond .eq 25, 3) := by decide +kernel
theorem dX12_notesBy_27 : decode cX12_notesBy 27 = .ok (.iload_n 2, 1) := by decide +kernel
theorem dX12_notesBy_28 : decode cX12_notesBy 28 = .ok (.i2l, 1) := by decide +kernel
theorem dX12_notesBy_29 : decode cX12_notesBy 29 = .ok (.aload_n 0, 1) := by decide +kernel
theorem dX12_notesBy_30 : decode cX12_notesBy 30 = .ok (.getfield 31, 3) := by decide +kernel
theorem dX12_notesBy_33 : decode cX12_notesBy 33 = .ok (.iload 4, 2) := by decide +kernel
theorem dX12_notesBy_35 : decode cX12_notesBy 35 = .ok (.iaload, 1) := by decide +kernel
theorem dX12_notesBy_36 : decode cX12_notesBy 36 = .ok (.invokestatic 211, 3) := by decide +kernel
theorem dX12_notesBy_39 : decode cX12_notesBy 39 = .ok (.ifCond .eq 10, 3) := by decide +kernel
theorem dX12_notesBy_42 : decode cX12_notesBy 42 = .ok (.iconst 1, 1) := by decide +kernel
theorem dX12_notesBy_43 : decode cX12_notesBy 43 = .ok (.iload 4, 2) := by decide +kernel
theorem dX12_notesBy_45 : decode cX12_notesBy 45 = .ok (.ishl, 1) := by decide +kernel
theorem dX12_notesBy_46 : decode cX12_notesBy 46 = .ok (.goto 4, 3) := by decide +kernel
theorem dX12_notesBy_49 : decode cX12_notesBy 49 = .ok (.iconst 0, 1) := by decide +kernel
theorem dX12_notesBy_50 : decode cX12_notesBy 50 = .ok (.ior, 1) := by decide +kernel
theorem dX12_notesBy_51 : decode cX12_notesBy 51 = .ok (.istore_n 3, 1) := by decide +kernel
theorem dX12_notesBy_52 : decode cX12_notesBy 52 = .ok (.iinc 4 1, 3) := by decide +kernel
theorem dX12_notesBy_55 : decode cX12_notesBy 55 = .ok (.goto (-50), 3) := by decide +kernel
theorem dX12_notesBy_58 : decode cX12_notesBy 58 = .ok (.iload_n 3, 1) := by decide +kernel
theorem dX12_notesBy_59 : decode cX12_notesBy 59 = .ok (.ireturn, 1) := by decide +kernel
theorem dX12_trust_0 : decode cX12_trust 0 = .ok (.aload_n 0, 1) := by decide +kernel
theorem dX12_trust_1 : decode cX12_trust 1 = .ok (.iload_n 1, 1) := by decide +kernel
theorem dX12_trust_2 : decode cX12_trust 2 = .ok (.invokevirtual 452, 3) := by decide +kernel
theorem dX12_trust_5 : decode cX12_trust 5 = .ok (.ifCond .ne 5, 3) := by decide +kernel
theorem dX12_trust_8 : decode cX12_trust 8 = .ok (.iconst (-1), 1) := by decide +kernel
theorem dX12_trust_9 : decode cX12_trust 9 = .ok (.ireturn, 1) := by decide +kernel
theorem dX12_trust_10 : decode cX12_trust 10 = .ok (.aload_n 0, 1) := by decide +kernel
theorem dX12_trust_11 : decode cX12_trust 11 = .ok (.iload_n 1, 1) := by decide +kernel
theorem dX12_trust_12 : decode cX12_trust 12 = .ok (.invokevirtual 476, 3) := by decide +kernel
theorem dX12_trust_15 : decode cX12_trust 15 = .ok (.bipush (-2), 2) := by decide +kernel
theorem dX12_trust_17 : decode cX12_trust 17 = .ok (.istore_n 2, 1) := by decide +kernel
theorem dX12_trust_18 : decode cX12_trust 18 = .ok (.iconst 0, 1) := by decide +kernel
theorem dX12_trust_19 : decode cX12_trust 19 = .ok (.istore_n 3, 1) := by decide +kernel
theorem dX12_trust_20 : decode cX12_trust 20 = .ok (.iload_n 3, 1) := by decide +kernel
theorem dX12_trust_21 : decode cX12_trust 21 = .ok (.bipush 64, 2) := by decide +kernel
theorem dX12_trust_23 : decode cX12_trust 23 = .ok (.if_icmp .ge 62, 3) := by decide +kernel
theorem dX12_trust_26 : decode cX12_trust 26 = .ok (.aload_n 0, 1) := by decide +kernel
theorem dX12_trust_27 : decode cX12_trust 27 = .ok (.getfield 127, 3) := by decide +kernel
theorem dX12_trust_30 : decode cX12_trust 30 = .ok (.iload_n 1, 1) := by decide +kernel
theorem dX12_trust_31 : decode cX12_trust 31 = .ok (.aload_n 0, 1) := by decide +kernel
theorem dX12_trust_32 : decode cX12_trust 32 = .ok (.iload_n 1, 1) := by decide +kernel
theorem dX12_trust_33 : decode cX12_trust 33 = .ok (.iload_n 3, 1) := by decide +kernel
theorem dX12_trust_34 : decode cX12_trust 34 = .ok (.invokevirtual 482, 3) := by decide +kernel
theorem dX12_trust_37 : decode cX12_trust 37 = .ok (.iconst (-1), 1) := by decide +kernel
theorem dX12_trust_38 : decode cX12_trust 38 = .ok (.ixor, 1) := by decide +kernel
theorem dX12_trust_39 : decode cX12_trust 39 = .ok (.iand, 1) := by decide +kernel
theorem dX12_trust_40 : decode cX12_trust 40 = .ok (.iaload, 1) := by decide +kernel
theorem dX12_trust_41 : decode cX12_trust 41 = .ok (.ifCond .le 7, 3) := by decide +kernel
theorem dX12_trust_44 : decode cX12_trust 44 = .ok (.iconst 1, 1) := by decide +kernel
theorem dX12_trust_45 : decode cX12_trust 45 = .ok (.goto 4, 3) := by decide +kernel
theorem dX12_trust_48 : decode cX12_trust 48 = .ok (.iconst 0, 1) := by decide +kernel
theorem dX12_trust_49 : decode cX12_trust 49 = .ok (.istore 4, 2) := by decide +kernel
theorem dX12_trust_51 : decode cX12_trust 51 = .ok (.iload 4, 2) := by decide +kernel
theorem dX12_trust_53 : decode cX12_trust 53 = .ok (.ifCond .eq 24, 3) := by decide +kernel
theorem dX12_trust_56 : decode cX12_trust 56 = .ok (.iload_n 2, 1) := by decide +kernel
theorem dX12_trust_57 : decode cX12_trust 57 = .ok (.bipush (-2), 2) := by decide +kernel
theorem dX12_trust_59 : decode cX12_trust 59 = .ok (.if_icmp .eq 14, 3) := by decide +kernel
theorem dX12_trust_62 : decode cX12_trust 62 = .ok (.iload_n 3, 1) := by decide +kernel
theorem dX12_trust_63 : decode cX12_trust 63 = .ok (.invokestatic 479, 3) := by decide +kernel
theorem dX12_trust_66 : decode cX12_trust 66 = .ok (.iload_n 2, 1) := by decide +kernel
theorem dX12_trust_67 : decode cX12_trust 67 = .ok (.invokestatic 479, 3) := by decide +kernel
theorem dX12_trust_70 : decode cX12_trust 70 = .ok (.if_icmp .ge 7, 3) := by decide +kernel
theorem dX12_trust_73 : decode cX12_trust 73 = .ok (.iload_n 3, 1) := by decide +kernel
theorem dX12_trust_74 : decode cX12_trust 74 = .ok (.goto 4, 3) := by decide +kernel
theorem dX12_trust_77 : decode cX12_trust 77 = .ok (.iload_n 2, 1) := by decide +kernel
theorem dX12_trust_78 : decode cX12_trust 78 = .ok (.istore_n 2, 1) := by decide +kernel
theorem dX12_trust_79 : decode cX12_trust 79 = .ok (.iinc 3 1, 3) := by decide +kernel
theorem dX12_trust_82 : decode cX12_trust 82 = .ok (.goto (-62), 3) := by decide +kernel
theorem dX12_trust_85 : decode cX12_trust 85 = .ok (.iload_n 2, 1) := by decide +kernel
theorem dX12_trust_86 : decode cX12_trust 86 = .ok (.ireturn, 1) := by decide +kernel
theorem dX12_noneSeen_0 : decode cX12_noneSeen 0 = .ok (.iconst 0, 1) := by decide +kernel
theorem dX12_noneSeen_1 : decode cX12_noneSeen 1 = .ok (.istore_n 3, 1) := by decide +kernel
theorem dX12_noneSeen_2 : decode cX12_noneSeen 2 = .ok (.iconst 0, 1) := by decide +kernel
theorem dX12_noneSeen_3 : decode cX12_noneSeen 3 = .ok (.istore 4, 2) := by decide +kernel
theorem dX12_noneSeen_5 : decode cX12_noneSeen 5 = .ok (.iload 4, 2) := by decide +kernel
theorem dX12_noneSeen_7 : decode cX12_noneSeen 7 = .ok (.aload_n 0, 1) := by decide +kernel
theorem dX12_noneSeen_8 : decode cX12_noneSeen 8 = .ok (.getfield 7, 3) := by decide +kernel
theorem dX12_noneSeen_11 : decode cX12_noneSeen 11 = .ok (.iconst 4, 1) := by decide +kernel
theorem dX12_noneSeen_12 : decode cX12_noneSeen 12 = .ok (.iaload, 1) := by decide +kernel
theorem dX12_noneSeen_13 : decode cX12_noneSeen 13 = .ok (.if_icmp .ge 16, 3) := by decide +kernel
theorem dX12_noneSeen_16 : decode cX12_noneSeen 16 = .ok (.iload_n 3, 1) := by decide +kernel
theorem dX12_noneSeen_17 : decode cX12_noneSeen 17 = .ok (.iconst 1, 1) := by decide +kernel
theorem dX12_noneSeen_18 : decode cX12_noneSeen 18 = .ok (.iload 4, 2) := by decide +kernel
theorem dX12_noneSeen_20 : decode cX12_noneSeen 20 = .ok (.ishl, 1) := by decide +kernel
theorem dX12_noneSeen_21 : decode cX12_noneSeen 21 = .ok (.ior, 1) := by decide +kernel
theorem dX12_noneSeen_22 : decode cX12_noneSeen 22 = .ok (.istore_n 3, 1) := by decide +kernel
theorem dX12_noneSeen_23 : decode cX12_noneSeen 23 = .ok (.iinc 4 1, 3) := by decide +kernel
theorem dX12_noneSeen_26 : decode cX12_noneSeen 26 = .ok (.goto (-21), 3) := by decide +kernel
theorem dX12_noneSeen_29 : decode cX12_noneSeen 29 = .ok (.iconst 0, 1) := by decide +kernel
theorem dX12_noneSeen_30 : decode cX12_noneSeen 30 = .ok (.istore 4, 2) := by decide +kernel
theorem dX12_noneSeen_32 : decode cX12_noneSeen 32 = .ok (.iload 4, 2) := by decide +kernel
theorem dX12_noneSeen_34 : decode cX12_noneSeen 34 = .ok (.aload_n 0, 1) := by decide +kernel
theorem dX12_noneSeen_35 : decode cX12_noneSeen 35 = .ok (.getfield 424, 3) := by decide +kernel
theorem dX12_noneSeen_38 : decode cX12_noneSeen 38 = .ok (.if_icmp .ge 41, 3) := by decide +kernel
theorem dX12_noneSeen_41 : decode cX12_noneSeen 41 = .ok (.iload_n 3, 1) := by decide +kernel
theorem dX12_noneSeen_42 : decode cX12_noneSeen 42 = .ok (.lload_n 1, 1) := by decide +kernel
theorem dX12_noneSeen_43 : decode cX12_noneSeen 43 = .ok (.aload_n 0, 1) := by decide +kernel
theorem dX12_noneSeen_44 : decode cX12_noneSeen 44 = .ok (.getfield 109, 3) := by decide +kernel
theorem dX12_noneSeen_47 : decode cX12_noneSeen 47 = .ok (.iload 4, 2) := by decide +kernel
theorem dX12_noneSeen_49 : decode cX12_noneSeen 49 = .ok (.iaload, 1) := by decide +kernel
theorem dX12_noneSeen_50 : decode cX12_noneSeen 50 = .ok (.invokestatic 211, 3) := by decide +kernel
theorem dX12_noneSeen_53 : decode cX12_noneSeen 53 = .ok (.ifCond .eq 17, 3) := by decide +kernel
theorem dX12_noneSeen_56 : decode cX12_noneSeen 56 = .ok (.iconst 1, 1) := by decide +kernel
theorem dX12_noneSeen_57 : decode cX12_noneSeen 57 = .ok (.aload_n 0, 1) := by decide +kernel
theorem dX12_noneSeen_58 : decode cX12_noneSeen 58 = .ok (.getfield 112, 3) := by decide +kernel
theorem dX12_noneSeen_61 : decode cX12_noneSeen 61 = .ok (.iload 4, 2) := by decide +kernel
theorem dX12_noneSeen_63 : decode cX12_noneSeen 63 = .ok (.iaload, 1) := by decide +kernel
theorem dX12_noneSeen_64 : decode cX12_noneSeen 64 = .ok (.ishl, 1) := by decide +kernel
theorem dX12_noneSeen_65 : decode cX12_noneSeen 65 = .ok (.iconst (-1), 1) := by decide +kernel
theorem dX12_noneSeen_66 : decode cX12_noneSeen 66 = .ok (.ixor, 1) := by decide +kernel
theorem dX12_noneSeen_67 : decode cX12_noneSeen 67 = .ok (.goto 4, 3) := by decide +kernel
theorem dX12_noneSeen_70 : decode cX12_noneSeen 70 = .ok (.iconst (-1), 1) := by decide +kernel
theorem dX12_noneSeen_71 : decode cX12_noneSeen 71 = .ok (.iand, 1) := by decide +kernel
theorem dX12_noneSeen_72 : decode cX12_noneSeen 72 = .ok (.istore_n 3, 1) := by decide +kernel
theorem dX12_noneSeen_73 : decode cX12_noneSeen 73 = .ok (.iinc 4 1, 3) := by decide +kernel
theorem dX12_noneSeen_76 : decode cX12_noneSeen 76 = .ok (.goto (-44), 3) := by decide +kernel
theorem dX12_noneSeen_79 : decode cX12_noneSeen 79 = .ok (.iload_n 3, 1) := by decide +kernel
theorem dX12_noneSeen_80 : decode cX12_noneSeen 80 = .ok (.ireturn, 1) := by decide +kernel
theorem dX12_cell_0 : decode cX12_cell 0 = .ok (.iload_n 0, 1) := by decide +kernel
theorem dX12_cell_1 : decode cX12_cell 1 = .ok (.bipush 16, 2) := by decide +kernel
theorem dX12_cell_3 : decode cX12_cell 3 = .ok (.imul, 1) := by decide +kernel
theorem dX12_cell_4 : decode cX12_cell 4 = .ok (.iload_n 1, 1) := by decide +kernel
theorem dX12_cell_5 : decode cX12_cell 5 = .ok (.iadd, 1) := by decide +kernel
theorem dX12_cell_6 : decode cX12_cell 6 = .ok (.bipush 8, 2) := by decide +kernel
theorem dX12_cell_8 : decode cX12_cell 8 = .ok (.imul, 1) := by decide +kernel
theorem dX12_cell_9 : decode cX12_cell 9 = .ok (.iload_n 2, 1) := by decide +kernel
theorem dX12_cell_10 : decode cX12_cell 10 = .ok (.iadd, 1) := by decide +kernel
theorem dX12_cell_11 : decode cX12_cell 11 = .ok (.bipush 16, 2) := by decide +kernel
theorem dX12_cell_13 : decode cX12_cell 13 = .ok (.imul, 1) := by decide +kernel
theorem dX12_cell_14 : decode cX12_cell 14 = .ok (.iload_n 3, 1) := by decide +kernel
theorem dX12_cell_15 : decode cX12_cell 15 = .ok (.iadd, 1) := by decide +kernel
theorem dX12_cell_16 : decode cX12_cell 16 = .ok (.ireturn, 1) := by decide +kernel
theorem dX12_fillsBoth_0 : decode cX12_fillsBoth 0 = .ok (.iconst 0, 1) := by decide +kernel
theorem dX12_fillsBoth_1 : decode cX12_fillsBoth 1 = .ok (.istore_n 2, 1) := by decide +kernel
theorem dX12_fillsBoth_2 : decode cX12_fillsBoth 2 = .ok (.iload_n 2, 1) := by decide +kernel
theorem dX12_fillsBoth_3 : decode cX12_fillsBoth 3 = .ok (.aload_n 0, 1) := by decide +kernel
theorem dX12_fillsBoth_4 : decode cX12_fillsBoth 4 = .ok (.getfield 133, 3) := by decide +kernel
theorem dX12_fillsBoth_7 : decode cX12_fillsBoth 7 = .ok (.arraylength, 1) := by decide +kernel
theorem dX12_fillsBoth_8 : decode cX12_fillsBoth 8 = .ok (.if_icmp .ge 16, 3) := by decide +kernel
theorem dX12_fillsBoth_11 : decode cX12_fillsBoth 11 = .ok (.aload_n 0, 1) := by decide +kernel
theorem dX12_fillsBoth_12 : decode cX12_fillsBoth 12 = .ok (.getfield 133, 3) := by decide +kernel
theorem dX12_fillsBoth_15 : decode cX12_fillsBoth 15 = .ok (.iload_n 2, 1) := by decide +kernel
theorem dX12_fillsBoth_16 : decode cX12_fillsBoth 16 = .ok (.iconst 0, 1) := by decide +kernel
theorem dX12_fillsBoth_17 : decode cX12_fillsBoth 17 = .ok (.iastore, 1) := by decide +kernel
theorem dX12_fillsBoth_18 : decode cX12_fillsBoth 18 = .ok (.iinc 2 1, 3) := by decide +kernel
theorem dX12_fillsBoth_21 : decode cX12_fillsBoth 21 = .ok (.goto (-19), 3) := by decide +kernel
theorem dX12_fillsBoth_24 : decode cX12_fillsBoth 24 = .ok (.aload_n 0, 1) := by decide +kernel
theorem dX12_fillsBoth_25 : decode cX12_fillsBoth 25 = .ok (.invokevirtual 446, 3) := by decide +kernel
theorem dX12_fillsBoth_28 : decode cX12_fillsBoth 28 = .ok (.iconst 0, 1) := by decide +kernel
theorem dX12_fillsBoth_29 : decode cX12_fillsBoth 29 = .ok (.istore_n 2, 1) := by decide +kernel
theorem dX12_fillsBoth_30 : decode cX12_fillsBoth 30 = .ok (.iload_n 2, 1) := by decide +kernel
theorem dX12_fillsBoth_31 : decode cX12_fillsBoth 31 = .ok (.aload_n 0, 1) := by decide +kernel
theorem dX12_fillsBoth_32 : decode cX12_fillsBoth 32 = .ok (.getfield 7, 3) := by decide +kernel
theorem dX12_fillsBoth_35 : decode cX12_fillsBoth 35 = .ok (.iconst 2, 1) := by decide +kernel
theorem dX12_fillsBoth_36 : decode cX12_fillsBoth 36 = .ok (.iaload, 1) := by decide +kernel
theorem dX12_fillsBoth_37 : decode cX12_fillsBoth 37 = .ok (.if_icmp .ge 31, 3) := by decide +kernel
theorem dX12_fillsBoth_40 : decode cX12_fillsBoth 40 = .ok (.aload_n 0, 1) := by decide +kernel
theorem dX12_fillsBoth_41 : decode cX12_fillsBoth 41 = .ok (.getfield 124, 3) := by decide +kernel
theorem dX12_fillsBoth_44 : decode cX12_fillsBoth 44 = .ok (.iload_n 2, 1) := by decide +kernel
theorem dX12_fillsBoth_45 : decode cX12_fillsBoth 45 = .ok (.aload_n 0, 1) := by decide +kernel
theorem dX12_fillsBoth_46 : decode cX12_fillsBoth 46 = .ok (.aload_n 0, 1) := by decide +kernel
theorem dX12_fillsBoth_47 : decode cX12_fillsBoth 47 = .ok (.getfield 16, 3) := by decide +kernel
theorem dX12_fillsBoth_50 : decode cX12_fillsBoth 50 = .ok (.iload_n 2, 1) := by decide +kernel
theorem dX12_fillsBoth_51 : decode cX12_fillsBoth 51 = .ok (.iaload, 1) := by decide +kernel
theorem dX12_fillsBoth_52 : decode cX12_fillsBoth 52 = .ok (.aload_n 0, 1) := by decide +kernel
theorem dX12_fillsBoth_53 : decode cX12_fillsBoth 53 = .ok (.getfield 19, 3) := by decide +kernel
theorem dX12_fillsBoth_56 : decode cX12_fillsBoth 56 = .ok (.iload_n 2, 1) := by decide +kernel
theorem dX12_fillsBoth_57 : decode cX12_fillsBoth 57 = .ok (.iaload, 1) := by decide +kernel
theorem dX12_fillsBoth_58 : decode cX12_fillsBoth 58 = .ok (.invokevirtual 197, 3) := by decide +kernel
theorem dX12_fillsBoth_61 : decode cX12_fillsBoth 61 = .ok (.lastore, 1) := by decide +kernel
theorem dX12_fillsBoth_62 : decode cX12_fillsBoth 62 = .ok (.iinc 2 1, 3) := by decide +kernel
theorem dX12_fillsBoth_65 : decode cX12_fillsBoth 65 = .ok (.goto (-35), 3) := by decide +kernel
theorem dX12_fillsBoth_68 : decode cX12_fillsBoth 68 = .ok (.aload_n 0, 1) := by decide +kernel
theorem dX12_fillsBoth_69 : decode cX12_fillsBoth 69 = .ok (.iload_n 1, 1) := by decide +kernel
theorem dX12_fillsBoth_70 : decode cX12_fillsBoth 70 = .ok (.invokevirtual 449, 3) := by decide +kernel
theorem dX12_fillsBoth_73 : decode cX12_fillsBoth 73 = .ok (.ifCond .eq 102, 3) := by decide +kernel
theorem dX12_fillsBoth_76 : decode cX12_fillsBoth 76 = .ok (.iconst 0, 1) := by decide +kernel
theorem dX12_fillsBoth_77 : decode cX12_fillsBoth 77 = .ok (.istore_n 2, 1) := by decide +kernel
theorem dX12_fillsBoth_78 : decode cX12_fillsBoth 78 = .ok (.iload_n 2, 1) := by decide +kernel
theorem dX12_fillsBoth_79 : decode cX12_fillsBoth 79 = .ok (.aload_n 0, 1) := by decide +kernel
theorem dX12_fillsBoth_80 : decode cX12_fillsBoth 80 = .ok (.getfield 7, 3) := by decide +kernel
theorem dX12_fillsBoth_83 : decode cX12_fillsBoth 83 = .ok (.iconst 2, 1) := by decide +kernel
theorem dX12_fillsBoth_84 : decode cX12_fillsBoth 84 = .ok (.iaload, 1) := by decide +kernel
theorem dX12_fillsBoth_85 : decode cX12_fillsBoth 85 = .ok (.if_icmp .ge 25, 3) := by decide +kernel
theorem dX12_fillsBoth_88 : decode cX12_fillsBoth 88 = .ok (.aload_n 0, 1) := by decide +kernel
theorem dX12_fillsBoth_89 : decode cX12_fillsBoth 89 = .ok (.getfield 130, 3) := by decide +kernel
theorem dX12_fillsBoth_92 : decode cX12_fillsBoth 92 = .ok (.iload_n 2, 1) := by decide +kernel
theorem dX12_fillsBoth_93 : decode cX12_fillsBoth 93 = .ok (.aload_n 0, 1) := by decide +kernel
theorem dX12_fillsBoth_94 : decode cX12_fillsBoth 94 = .ok (.aload_n 0, 1) := by decide +kernel
theorem dX12_fillsBoth_95 : decode cX12_fillsBoth 95 = .ok (.getfield 124, 3) := by decide +kernel
theorem dX12_fillsBoth_98 : decode cX12_fillsBoth 98 = .ok (.iload_n 2, 1) := by decide +kernel
theorem dX12_fillsBoth_99 : decode cX12_fillsBoth 99 = .ok (.laload, 1) := by decide +kernel
theorem dX12_fillsBoth_100 : decode cX12_fillsBoth 100 = .ok (.invokevirtual 485, 3) := by decide +kernel
theorem dX12_fillsBoth_103 : decode cX12_fillsBoth 103 = .ok (.iastore, 1) := by decide +kernel
theorem dX12_fillsBoth_104 : decode cX12_fillsBoth 104 = .ok (.iinc 2 1, 3) := by decide +kernel
theorem dX12_fillsBoth_107 : decode cX12_fillsBoth 107 = .ok (.goto (-29), 3) := by decide +kernel
theorem dX12_fillsBoth_110 : decode cX12_fillsBoth 110 = .ok (.iconst 0, 1) := by decide +kernel
theorem dX12_fillsBoth_111 : decode cX12_fillsBoth 111 = .ok (.istore_n 2, 1) := by decide +kernel
theorem dX12_fillsBoth_112 : decode cX12_fillsBoth 112 = .ok (.iload_n 2, 1) := by decide +kernel
theorem dX12_fillsBoth_113 : decode cX12_fillsBoth 113 = .ok (.aload_n 0, 1) := by decide +kernel
theorem dX12_fillsBoth_114 : decode cX12_fillsBoth 114 = .ok (.getfield 7, 3) := by decide +kernel
theorem dX12_fillsBoth_117 : decode cX12_fillsBoth 117 = .ok (.iconst 2, 1) := by decide +kernel
theorem dX12_fillsBoth_118 : decode cX12_fillsBoth 118 = .ok (.iaload, 1) := by decide +kernel
theorem dX12_fillsBoth_119 : decode cX12_fillsBoth 119 = .ok (.if_icmp .ge 53, 3) := by decide +kernel
theorem dX12_fillsBoth_122 : decode cX12_fillsBoth 122 = .ok (.iconst 0, 1) := by decide +kernel
theorem dX12_fillsBoth_123 : decode cX12_fillsBoth 123 = .ok (.istore_n 3, 1) := by decide +kernel
theorem dX12_fillsBoth_124 : decode cX12_fillsBoth 124 = .ok (.iload_n 3, 1) := by decide +kernel
theorem dX12_fillsBoth_125 : decode cX12_fillsBoth 125 = .ok (.aload_n 0, 1) := by decide +kernel
theorem dX12_fillsBoth_126 : decode cX12_fillsBoth 126 = .ok (.getfield 7, 3) := by decide +kernel
theorem dX12_fillsBoth_129 : decode cX12_fillsBoth 129 = .ok (.iconst 2, 1) := by decide +kernel
theorem dX12_fillsBoth_130 : decode cX12_fillsBoth 130 = .ok (.iaload, 1) := by decide +kernel
theorem dX12_fillsBoth_131 : decode cX12_fillsBoth 131 = .ok (.if_icmp .ge 35, 3) := by decide +kernel
theorem dX12_fillsBoth_134 : decode cX12_fillsBoth 134 = .ok (.aload_n 0, 1) := by decide +kernel
theorem dX12_fillsBoth_135 : decode cX12_fillsBoth 135 = .ok (.getfield 133, 3) := by decide +kernel
theorem dX12_fillsBoth_138 : decode cX12_fillsBoth 138 = .ok (.iload_n 2, 1) := by decide +kernel
theorem dX12_fillsBoth_139 : decode cX12_fillsBoth 139 = .ok (.aload_n 0, 1) := by decide +kernel
theorem dX12_fillsBoth_140 : decode cX12_fillsBoth 140 = .ok (.getfield 130, 3) := by decide +kernel
theorem dX12_fillsBoth_143 : decode cX12_fillsBoth 143 = .ok (.iload_n 2, 1) := by decide +kernel
theorem dX12_fillsBoth_144 : decode cX12_fillsBoth 144 = .ok (.iaload, 1) := by decide +kernel
theorem dX12_fillsBoth_145 : decode cX12_fillsBoth 145 = .ok (.iload_n 3, 1) := by decide +kernel
theorem dX12_fillsBoth_146 : decode cX12_fillsBoth 146 = .ok (.aload_n 0, 1) := by decide +kernel
theorem dX12_fillsBoth_147 : decode cX12_fillsBoth 147 = .ok (.getfield 130, 3) := by decide +kernel
theorem dX12_fillsBoth_150 : decode cX12_fillsBoth 150 = .ok (.iload_n 3, 1) := by decide +kernel
theorem dX12_fillsBoth_151 : decode cX12_fillsBoth 151 = .ok (.iaload, 1) := by decide +kernel
theorem dX12_fillsBoth_152 : decode cX12_fillsBoth 152 = .ok (.invokestatic 489, 3) := by decide +kernel
theorem dX12_fillsBoth_155 : decode cX12_fillsBoth 155 = .ok (.dup2, 1) := by decide +kernel
theorem dX12_fillsBoth_156 : decode cX12_fillsBoth 156 = .ok (.iaload, 1) := by decide +kernel
theorem dX12_fillsBoth_157 : decode cX12_fillsBoth 157 = .ok (.iconst 1, 1) := by decide +kernel
theorem dX12_fillsBoth_158 : decode cX12_fillsBoth 158 = .ok (.iadd, 1) := by decide +kernel
theorem dX12_fillsBoth_159 : decode cX12_fillsBoth 159 = .ok (.iastore, 1) := by decide +kernel
theorem dX12_fillsBoth_160 : decode cX12_fillsBoth 160 = .ok (.iinc 3 1, 3) := by decide +kernel
theorem dX12_fillsBoth_163 : decode cX12_fillsBoth 163 = .ok (.goto (-39), 3) := by decide +kernel
theorem dX12_fillsBoth_166 : decode cX12_fillsBoth 166 = .ok (.iinc 2 1, 3) := by decide +kernel
theorem dX12_fillsBoth_169 : decode cX12_fillsBoth 169 = .ok (.goto (-57), 3) := by decide +kernel
theorem dX12_fillsBoth_172 : decode cX12_fillsBoth 172 = .ok (.goto (-104), 3) := by decide +kernel
theorem dX12_fillsBoth_175 : decode cX12_fillsBoth 175 = .ok (.return_, 1) := by decide +kernel
theorem dX12_worstOf_0 : decode cX12_worstOf 0 = .ok (.iconst 0, 1) := by decide +kernel
theorem dX12_worstOf_1 : decode cX12_worstOf 1 = .ok (.istore_n 2, 1) := by decide +kernel
theorem dX12_worstOf_2 : decode cX12_worstOf 2 = .ok (.iconst 0, 1) := by decide +kernel
theorem dX12_worstOf_3 : decode cX12_worstOf 3 = .ok (.istore_n 3, 1) := by decide +kernel
theorem dX12_worstOf_4 : decode cX12_worstOf 4 = .ok (.iload_n 3, 1) := by decide +kernel
theorem dX12_worstOf_5 : decode cX12_worstOf 5 = .ok (.bipush 16, 2) := by decide +kernel
theorem dX12_worstOf_7 : decode cX12_worstOf 7 = .ok (.if_icmp .ge 42, 3) := by decide +kernel
theorem dX12_worstOf_10 : decode cX12_worstOf 10 = .ok (.aload_n 0, 1) := by decide +kernel
theorem dX12_worstOf_11 : decode cX12_worstOf 11 = .ok (.getfield 133, 3) := by decide +kernel
theorem dX12_worstOf_14 : decode cX12_worstOf 14 = .ok (.iload_n 1, 1) := by decide +kernel
theorem dX12_worstOf_15 : decode cX12_worstOf 15 = .ok (.iload_n 3, 1) := by decide +kernel
theorem dX12_worstOf_16 : decode cX12_worstOf 16 = .ok (.iload_n 1, 1) := by decide +kernel
theorem dX12_worstOf_17 : decode cX12_worstOf 17 = .ok (.iload_n 3, 1) := by decide +kernel
theorem dX12_worstOf_18 : decode cX12_worstOf 18 = .ok (.invokestatic 489, 3) := by decide +kernel
theorem dX12_worstOf_21 : decode cX12_worstOf 21 = .ok (.iaload, 1) := by decide +kernel
theorem dX12_worstOf_22 : decode cX12_worstOf 22 = .ok (.iload_n 2, 1) := by decide +kernel
theorem dX12_worstOf_23 : decode cX12_worstOf 23 = .ok (.if_icmp .le 18, 3) := by decide +kernel
theorem dX12_worstOf_26 : decode cX12_worstOf 26 = .ok (.aload_n 0, 1) := by decide +kernel
theorem dX12_worstOf_27 : decode cX12_worstOf 27 = .ok (.getfield 133, 3) := by decide +kernel
theorem dX12_worstOf_30 : decode cX12_worstOf 30 = .ok (.iload_n 1, 1) := by decide +kernel
theorem dX12_worstOf_31 : decode cX12_worstOf 31 = .ok (.iload_n 3, 1) := by decide +kernel
theorem dX12_worstOf_32 : decode cX12_worstOf 32 = .ok (.iload_n 1, 1) := by decide +kernel
theorem dX12_worstOf_33 : decode cX12_worstOf 33 = .ok (.iload_n 3, 1) := by decide +kernel
theorem dX12_worstOf_34 : decode cX12_worstOf 34 = .ok (.invokestatic 489, 3) := by decide +kernel
theorem dX12_worstOf_37 : decode cX12_worstOf 37 = .ok (.iaload, 1) := by decide +kernel
theorem dX12_worstOf_38 : decode cX12_worstOf 38 = .ok (.goto 4, 3) := by decide +kernel
theorem dX12_worstOf_41 : decode cX12_worstOf 41 = .ok (.iload_n 2, 1) := by decide +kernel
theorem dX12_worstOf_42 : decode cX12_worstOf 42 = .ok (.istore_n 2, 1) := by decide +kernel
theorem dX12_worstOf_43 : decode cX12_worstOf 43 = .ok (.iinc 3 1, 3) := by decide +kernel
theorem dX12_worstOf_46 : decode cX12_worstOf 46 = .ok (.goto (-42), 3) := by decide +kernel
theorem dX12_worstOf_49 : decode cX12_worstOf 49 = .ok (.iload_n 2, 1) := by decide +kernel
theorem dX12_worstOf_50 : decode cX12_worstOf 50 = .ok (.ireturn, 1) := by decide +kernel
theorem dX12_worst_0 : decode cX12_worst 0 = .ok (.aload_n 0, 1) := by decide +kernel
theorem dX12_worst_1 : decode cX12_worst 1 = .ok (.iload_n 1, 1) := by decide +kernel
theorem dX12_worst_2 : decode cX12_worst 2 = .ok (.invokevirtual 452, 3) := by decide +kernel
theorem dX12_worst_5 : decode cX12_worst 5 = .ok (.ifCond .eq 11, 3) := by decide +kernel
theorem dX12_worst_8 : decode cX12_worst 8 = .ok (.aload_n 0, 1) := by decide +kernel
theorem dX12_worst_9 : decode cX12_worst 9 = .ok (.iload_n 2, 1) := by decide +kernel
theorem dX12_worst_10 : decode cX12_worst 10 = .ok (.invokevirtual 194, 3) := by decide +kernel
theorem dX12_worst_13 : decode cX12_worst 13 = .ok (.ifCond .ne 5, 3) := by decide +kernel
theorem dX12_worst_16 : decode cX12_worst 16 = .ok (.iconst (-1), 1) := by decide +kernel
theorem dX12_worst_17 : decode cX12_worst 17 = .ok (.ireturn, 1) := by decide +kernel
theorem dX12_worst_18 : decode cX12_worst 18 = .ok (.aload_n 0, 1) := by decide +kernel
theorem dX12_worst_19 : decode cX12_worst 19 = .ok (.iload_n 1, 1) := by decide +kernel
theorem dX12_worst_20 : decode cX12_worst 20 = .ok (.invokevirtual 493, 3) := by decide +kernel
theorem dX12_worst_23 : decode cX12_worst 23 = .ok (.aload_n 0, 1) := by decide +kernel
theorem dX12_worst_24 : decode cX12_worst 24 = .ok (.iload_n 2, 1) := by decide +kernel
theorem dX12_worst_25 : decode cX12_worst 25 = .ok (.invokevirtual 496, 3) := by decide +kernel
theorem dX12_worst_28 : decode cX12_worst 28 = .ok (.ireturn, 1) := by decide +kernel
theorem dX12_next_0 : decode cX12_next 0 = .ok (.aload_n 0, 1) := by decide +kernel
theorem dX12_next_1 : decode cX12_next 1 = .ok (.iload_n 1, 1) := by decide +kernel
theorem dX12_next_2 : decode cX12_next 2 = .ok (.invokevirtual 452, 3) := by decide +kernel
theorem dX12_next_5 : decode cX12_next 5 = .ok (.ifCond .eq 13, 3) := by decide +kernel
theorem dX12_next_8 : decode cX12_next 8 = .ok (.iload_n 2, 1) := by decide +kernel
theorem dX12_next_9 : decode cX12_next 9 = .ok (.i2l, 1) := by decide +kernel
theorem dX12_next_10 : decode cX12_next 10 = .ok (.lconst 0, 1) := by decide +kernel
theorem dX12_next_11 : decode cX12_next 11 = .ok (.lconst 1, 1) := by decide +kernel
theorem dX12_next_12 : decode cX12_next 12 = .ok (.invokestatic 161, 3) := by decide +kernel
theorem dX12_next_15 : decode cX12_next 15 = .ok (.ifCond .ne 5, 3) := by decide +kernel
theorem dX12_next_18 : decode cX12_next 18 = .ok (.iconst (-1), 1) := by decide +kernel
theorem dX12_next_19 : decode cX12_next 19 = .ok (.ireturn, 1) := by decide +kernel
theorem dX12_next_20 : decode cX12_next 20 = .ok (.aload_n 0, 1) := by decide +kernel
theorem dX12_next_21 : decode cX12_next 21 = .ok (.iload_n 1, 1) := by decide +kernel
theorem dX12_next_22 : decode cX12_next 22 = .ok (.invokevirtual 493, 3) := by decide +kernel
theorem dX12_next_25 : decode cX12_next 25 = .ok (.bipush (-2), 2) := by decide +kernel
theorem dX12_next_27 : decode cX12_next 27 = .ok (.istore_n 3, 1) := by decide +kernel
theorem dX12_next_28 : decode cX12_next 28 = .ok (.iconst 0, 1) := by decide +kernel
theorem dX12_next_29 : decode cX12_next 29 = .ok (.istore 4, 2) := by decide +kernel
theorem dX12_next_31 : decode cX12_next 31 = .ok (.iload 4, 2) := by decide +kernel
theorem dX12_next_33 : decode cX12_next 33 = .ok (.aload_n 0, 1) := by decide +kernel
theorem dX12_next_34 : decode cX12_next 34 = .ok (.getfield 7, 3) := by decide +kernel
theorem dX12_next_37 : decode cX12_next 37 = .ok (.iconst 2, 1) := by decide +kernel
theorem dX12_next_38 : decode cX12_next 38 = .ok (.iaload, 1) := by decide +kernel
theorem dX12_next_39 : decode cX12_next 39 = .ok (.if_icmp .ge 36, 3) := by decide +kernel
theorem dX12_next_42 : decode cX12_next 42 = .ok (.iload_n 3, 1) := by decide +kernel
theorem dX12_next_43 : decode cX12_next 43 = .ok (.bipush (-2), 2) := by decide +kernel
theorem dX12_next_45 : decode cX12_next 45 = .ok (.if_icmp .eq 17, 3) := by decide +kernel
theorem dX12_next_48 : decode cX12_next 48 = .ok (.aload_n 0, 1) := by decide +kernel
theorem dX12_next_49 : decode cX12_next 49 = .ok (.iload 4, 2) := by decide +kernel
theorem dX12_next_51 : decode cX12_next 51 = .ok (.invokevirtual 496, 3) := by decide +kernel
theorem dX12_next_54 : decode cX12_next 54 = .ok (.aload_n 0, 1) := by decide +kernel
theorem dX12_next_55 : decode cX12_next 55 = .ok (.iload_n 3, 1) := by decide +kernel
theorem dX12_next_56 : decode cX12_next 56 = .ok (.invokevirtual 496, 3) := by decide +kernel
theorem dX12_next_59 : decode cX12_next 59 = .ok (.if_icmp .ge 8, 3) := by decide +kernel
theorem dX12_next_62 : decode cX12_next 62 = .ok (.iload 4, 2) := by decide +kernel
theorem dX12_next_64 : decode cX12_next 64 = .ok (.goto 4, 3) := by decide +kernel
theorem dX12_next_67 : decode cX12_next 67 = .ok (.iload_n 3, 1) := by decide +kernel
theorem dX12_next_68 : decode cX12_next 68 = .ok (.istore_n 3, 1) := by decide +kernel
theorem dX12_next_69 : decode cX12_next 69 = .ok (.iinc 4 1, 3) := by decide +kernel
theorem dX12_next_72 : decode cX12_next 72 = .ok (.goto (-41), 3) := by decide +kernel
theorem dX12_next_75 : decode cX12_next 75 = .ok (.iload_n 3, 1) := by decide +kernel
theorem dX12_next_76 : decode cX12_next 76 = .ok (.bipush (-2), 2) := by decide +kernel
theorem dX12_next_78 : decode cX12_next 78 = .ok (.if_icmp .eq 7, 3) := by decide +kernel
theorem dX12_next_81 : decode cX12_next 81 = .ok (.iload_n 2, 1) := by decide +kernel
theorem dX12_next_82 : decode cX12_next 82 = .ok (.ifCond .ne 7, 3) := by decide +kernel
theorem dX12_next_85 : decode cX12_next 85 = .ok (.iload_n 3, 1) := by decide +kernel
theorem dX12_next_86 : decode cX12_next 86 = .ok (.goto 8, 3) := by decide +kernel
theorem dX12_next_89 : decode cX12_next 89 = .ok (.aload_n 0, 1) := by decide +kernel
theorem dX12_next_90 : decode cX12_next 90 = .ok (.iload_n 3, 1) := by decide +kernel
theorem dX12_next_91 : decode cX12_next 91 = .ok (.invokevirtual 496, 3) := by decide +kernel
theorem dX12_next_94 : decode cX12_next 94 = .ok (.ireturn, 1) := by decide +kernel
theorem dX12_worstThen_0 : decode cX12_worstThen 0 = .ok (.iconst 0, 1) := by decide +kernel
theorem dX12_worstThen_1 : decode cX12_worstThen 1 = .ok (.istore 4, 2) := by decide +kernel
theorem dX12_worstThen_3 : decode cX12_worstThen 3 = .ok (.iconst 0, 1) := by decide +kernel
theorem dX12_worstThen_4 : decode cX12_worstThen 4 = .ok (.istore 5, 2) := by decide +kernel
theorem dX12_worstThen_6 : decode cX12_worstThen 6 = .ok (.iload 5, 2) := by decide +kernel
theorem dX12_worstThen_8 : decode cX12_worstThen 8 = .ok (.bipush 16, 2) := by decide +kernel
theorem dX12_worstThen_10 : decode cX12_worstThen 10 = .ok (.if_icmp .ge 47, 3) := by decide +kernel
theorem dX12_worstThen_13 : decode cX12_worstThen 13 = .ok (.aload_n 0, 1) := by decide +kernel
theorem dX12_worstThen_14 : decode cX12_worstThen 14 = .ok (.getfield 133, 3) := by decide +kernel
theorem dX12_worstThen_17 : decode cX12_worstThen 17 = .ok (.iload_n 1, 1) := by decide +kernel
theorem dX12_worstThen_18 : decode cX12_worstThen 18 = .ok (.iload_n 2, 1) := by decide +kernel
theorem dX12_worstThen_19 : decode cX12_worstThen 19 = .ok (.iload_n 3, 1) := by decide +kernel
theorem dX12_worstThen_20 : decode cX12_worstThen 20 = .ok (.iload 5, 2) := by decide +kernel
theorem dX12_worstThen_22 : decode cX12_worstThen 22 = .ok (.invokestatic 489, 3) := by decide +kernel
theorem dX12_worstThen_25 : decode cX12_worstThen 25 = .ok (.iaload, 1) := by decide +kernel
theorem dX12_worstThen_26 : decode cX12_worstThen 26 = .ok (.iload 4, 2) := by decide +kernel
theorem dX12_worstThen_28 : decode cX12_worstThen 28 = .ok (.if_icmp .le 19, 3) := by decide +kernel
theorem dX12_worstThen_31 : decode cX12_worstThen 31 = .ok (.aload_n 0, 1) := by decide +kernel
theorem dX12_worstThen_32 : decode cX12_worstThen 32 = .ok (.getfield 133, 3) := by decide +kernel
theorem dX12_worstThen_35 : decode cX12_worstThen 35 = .ok (.iload_n 1, 1) := by decide +kernel
theorem dX12_worstThen_36 : decode cX12_worstThen 36 = .ok (.iload_n 2, 1) := by decide +kernel
theorem dX12_worstThen_37 : decode cX12_worstThen 37 = .ok (.iload_n 3, 1) := by decide +kernel
theorem dX12_worstThen_38 : decode cX12_worstThen 38 = .ok (.iload 5, 2) := by decide +kernel
theorem dX12_worstThen_40 : decode cX12_worstThen 40 = .ok (.invokestatic 489, 3) := by decide +kernel
theorem dX12_worstThen_43 : decode cX12_worstThen 43 = .ok (.iaload, 1) := by decide +kernel
theorem dX12_worstThen_44 : decode cX12_worstThen 44 = .ok (.goto 5, 3) := by decide +kernel
theorem dX12_worstThen_47 : decode cX12_worstThen 47 = .ok (.iload 4, 2) := by decide +kernel
theorem dX12_worstThen_49 : decode cX12_worstThen 49 = .ok (.istore 4, 2) := by decide +kernel
theorem dX12_worstThen_51 : decode cX12_worstThen 51 = .ok (.iinc 5 1, 3) := by decide +kernel
theorem dX12_worstThen_54 : decode cX12_worstThen 54 = .ok (.goto (-48), 3) := by decide +kernel
theorem dX12_worstThen_57 : decode cX12_worstThen 57 = .ok (.iload 4, 2) := by decide +kernel
theorem dX12_worstThen_59 : decode cX12_worstThen 59 = .ok (.ireturn, 1) := by decide +kernel
theorem dX12_thenOf_0 : decode cX12_thenOf 0 = .ok (.iconst (-1), 1) := by decide +kernel
theorem dX12_thenOf_1 : decode cX12_thenOf 1 = .ok (.istore_n 3, 1) := by decide +kernel
theorem dX12_thenOf_2 : decode cX12_thenOf 2 = .ok (.iconst 0, 1) := by decide +kernel
theorem dX12_thenOf_3 : decode cX12_thenOf 3 = .ok (.istore 4, 2) := by decide +kernel
theorem dX12_thenOf_5 : decode cX12_thenOf 5 = .ok (.iload 4, 2) := by decide +kernel
theorem dX12_thenOf_7 : decode cX12_thenOf 7 = .ok (.aload_n 0, 1) := by decide +kernel
theorem dX12_thenOf_8 : decode cX12_thenOf 8 = .ok (.getfield 7, 3) := by decide +kernel
theorem dX12_thenOf_11 : decode cX12_thenOf 11 = .ok (.iconst 2, 1) := by decide +kernel
theorem dX12_thenOf_12 : decode cX12_thenOf 12 = .ok (.iaload, 1) := by decide +kernel
theorem dX12_thenOf_13 : decode cX12_thenOf 13 = .ok (.if_icmp .ge 67, 3) := by decide +kernel
theorem dX12_thenOf_16 : decode cX12_thenOf 16 = .ok (.iload 4, 2) := by decide +kernel
theorem dX12_thenOf_18 : decode cX12_thenOf 18 = .ok (.iload_n 1, 1) := by decide +kernel
theorem dX12_thenOf_19 : decode cX12_thenOf 19 = .ok (.if_icmp .ne 13, 3) := by decide +kernel
theorem dX12_thenOf_22 : decode cX12_thenOf 22 = .ok (.aload_n 0, 1) := by decide +kernel
theorem dX12_thenOf_23 : decode cX12_thenOf 23 = .ok (.getfield 7, 3) := by decide +kernel
theorem dX12_thenOf_26 : decode cX12_thenOf 26 = .ok (.iconst 2, 1) := by decide +kernel
theorem dX12_thenOf_27 : decode cX12_thenOf 27 = .ok (.iaload, 1) := by decide +kernel
theorem dX12_thenOf_28 : decode cX12_thenOf 28 = .ok (.iconst 1, 1) := by decide +kernel
theorem dX12_thenOf_29 : decode cX12_thenOf 29 = .ok (.if_icmp .ne 7, 3) := by decide +kernel
theorem dX12_thenOf_32 : decode cX12_thenOf 32 = .ok (.iconst 1, 1) := by decide +kernel
theorem dX12_thenOf_33 : decode cX12_thenOf 33 = .ok (.goto 4, 3) := by decide +kernel
theorem dX12_thenOf_36 : decode cX12_thenOf 36 = .ok (.iconst 0, 1) := by decide +kernel
theorem dX12_thenOf_37 : decode cX12_thenOf 37 = .ok (.istore 5, 2) := by decide +kernel
theorem dX12_thenOf_39 : decode cX12_thenOf 39 = .ok (.iload 5, 2) := by decide +kernel
theorem dX12_thenOf_41 : decode cX12_thenOf 41 = .ok (.ifCond .eq 31, 3) := by decide +kernel
theorem dX12_thenOf_44 : decode cX12_thenOf 44 = .ok (.iload_n 3, 1) := by decide +kernel
theorem dX12_thenOf_45 : decode cX12_thenOf 45 = .ok (.iconst (-1), 1) := by decide +kernel
theorem dX12_thenOf_46 : decode cX12_thenOf 46 = .ok (.if_icmp .eq 21, 3) := by decide +kernel
theorem dX12_thenOf_49 : decode cX12_thenOf 49 = .ok (.aload_n 0, 1) := by decide +kernel
theorem dX12_thenOf_50 : decode cX12_thenOf 50 = .ok (.iload_n 1, 1) := by decide +kernel
theorem dX12_thenOf_51 : decode cX12_thenOf 51 = .ok (.iload_n 2, 1) := by decide +kernel
theorem dX12_thenOf_52 : decode cX12_thenOf 52 = .ok (.iload 4, 2) := by decide +kernel
theorem dX12_thenOf_54 : decode cX12_thenOf 54 = .ok (.invokevirtual 499, 3) := by decide +kernel
theorem dX12_thenOf_57 : decode cX12_thenOf 57 = .ok (.aload_n 0, 1) := by decide +kernel
theorem dX12_thenOf_58 : decode cX12_thenOf 58 = .ok (.iload_n 1, 1) := by decide +kernel
theorem dX12_thenOf_59 : decode cX12_thenOf 59 = .ok (.iload_n 2, 1) := by decide +kernel
theorem dX12_thenOf_60 : decode cX12_thenOf 60 = .ok (.iload_n 3, 1) := by decide +kernel
theorem dX12_thenOf_61 : decode cX12_thenOf 61 = .ok (.invokevirtual 499, 3) := by decide +kernel
theorem dX12_thenOf_64 : decode cX12_thenOf 64 = .ok (.if_icmp .ge 8, 3) := by decide +kernel
theorem dX12_thenOf_67 : decode cX12_thenOf 67 = .ok (.iload 4, 2) := by decide +kernel
theorem dX12_thenOf_69 : decode cX12_thenOf 69 = .ok (.goto 4, 3) := by decide +kernel
theorem dX12_thenOf_72 : decode cX12_thenOf 72 = .ok (.iload_n 3, 1) := by decide +kernel
theorem dX12_thenOf_73 : decode cX12_thenOf 73 = .ok (.istore_n 3, 1) := by decide +kernel
theorem dX12_thenOf_74 : decode cX12_thenOf 74 = .ok (.iinc 4 1, 3) := by decide +kernel
theorem dX12_thenOf_77 : decode cX12_thenOf 77 = .ok (.goto (-72), 3) := by decide +kernel
theorem dX12_thenOf_80 : decode cX12_thenOf 80 = .ok (.iload_n 3, 1) := by decide +kernel
theorem dX12_thenOf_81 : decode cX12_thenOf 81 = .ok (.ireturn, 1) := by decide +kernel
theorem dX12_then_0 : decode cX12_then 0 = .ok (.aload_n 0, 1) := by decide +kernel
theorem dX12_then_1 : decode cX12_then 1 = .ok (.iload_n 1, 1) := by decide +kernel
theorem dX12_then_2 : decode cX12_then 2 = .ok (.invokevirtual 452, 3) := by decide +kernel
theorem dX12_then_5 : decode cX12_then 5 = .ok (.ifCond .eq 42, 3) := by decide +kernel
theorem dX12_then_8 : decode cX12_then 8 = .ok (.aload_n 0, 1) := by decide +kernel
theorem dX12_then_9 : decode cX12_then 9 = .ok (.iload_n 2, 1) := by decide +kernel
theorem dX12_then_10 : decode cX12_then 10 = .ok (.invokevirtual 194, 3) := by decide +kernel
theorem dX12_then_13 : decode cX12_then 13 = .ok (.ifCond .eq 34, 3) := by decide +kernel
theorem dX12_then_16 : decode cX12_then 16 = .ok (.iload_n 3, 1) := by decide +kernel
theorem dX12_then_17 : decode cX12_then 17 = .ok (.i2l, 1) := by decide +kernel
theorem dX12_then_18 : decode cX12_then 18 = .ok (.lconst 0, 1) := by decide +kernel
theorem dX12_then_19 : decode cX12_then 19 = .ok (.iconst 1, 1) := by decide +kernel
theorem dX12_then_20 : decode cX12_then 20 = .ok (.aload_n 0, 1) := by decide +kernel
theorem dX12_then_21 : decode cX12_then 21 = .ok (.getfield 7, 3) := by decide +kernel
theorem dX12_then_24 : decode cX12_then 24 = .ok (.iconst 4, 1) := by decide +kernel
theorem dX12_then_25 : decode cX12_then 25 = .ok (.iaload, 1) := by decide +kernel
theorem dX12_then_26 : decode cX12_then 26 = .ok (.ishl, 1) := by decide +kernel
theorem dX12_then_27 : decode cX12_then 27 = .ok (.iconst 1, 1) := by decide +kernel
theorem dX12_then_28 : decode cX12_then 28 = .ok (.isub, 1) := by decide +kernel
theorem dX12_then_29 : decode cX12_then 29 = .ok (.i2l, 1) := by decide +kernel
theorem dX12_then_30 : decode cX12_then 30 = .ok (.invokestatic 161, 3) := by decide +kernel
theorem dX12_then_33 : decode cX12_then 33 = .ok (.ifCond .eq 14, 3) := by decide +kernel
theorem dX12_then_36 : decode cX12_then 36 = .ok (.iload 4, 2) := by decide +kernel
theorem dX12_then_38 : decode cX12_then 38 = .ok (.i2l, 1) := by decide +kernel
theorem dX12_then_39 : decode cX12_then 39 = .ok (.lconst 0, 1) := by decide +kernel
theorem dX12_then_40 : decode cX12_then 40 = .ok (.lconst 1, 1) := by decide +kernel
theorem dX12_then_41 : decode cX12_then 41 = .ok (.invokestatic 161, 3) := by decide +kernel
theorem dX12_then_44 : decode cX12_then 44 = .ok (.ifCond .ne 5, 3) := by decide +kernel
theorem dX12_then_47 : decode cX12_then 47 = .ok (.iconst (-1), 1) := by decide +kernel
theorem dX12_then_48 : decode cX12_then 48 = .ok (.ireturn, 1) := by decide +kernel
theorem dX12_then_49 : decode cX12_then 49 = .ok (.aload_n 0, 1) := by decide +kernel
theorem dX12_then_50 : decode cX12_then 50 = .ok (.iload_n 1, 1) := by decide +kernel
theorem dX12_then_51 : decode cX12_then 51 = .ok (.invokevirtual 493, 3) := by decide +kernel
theorem dX12_then_54 : decode cX12_then 54 = .ok (.aload_n 0, 1) := by decide +kernel
theorem dX12_then_55 : decode cX12_then 55 = .ok (.iload_n 2, 1) := by decide +kernel
theorem dX12_then_56 : decode cX12_then 56 = .ok (.iload_n 3, 1) := by decide +kernel
theorem dX12_then_57 : decode cX12_then 57 = .ok (.invokevirtual 503, 3) := by decide +kernel
theorem dX12_then_60 : decode cX12_then 60 = .ok (.istore 5, 2) := by decide +kernel
theorem dX12_then_62 : decode cX12_then 62 = .ok (.iload 4, 2) := by decide +kernel
theorem dX12_then_64 : decode cX12_then 64 = .ok (.ifCond .ne 8, 3) := by decide +kernel
theorem dX12_then_67 : decode cX12_then 67 = .ok (.iload 5, 2) := by decide +kernel
theorem dX12_then_69 : decode cX12_then 69 = .ok (.goto 11, 3) := by decide +kernel
theorem dX12_then_72 : decode cX12_then 72 = .ok (.aload_n 0, 1) := by decide +kernel
theorem dX12_then_73 : decode cX12_then 73 = .ok (.iload_n 2, 1) := by decide +kernel
theorem dX12_then_74 : decode cX12_then 74 = .ok (.iload_n 3, 1) := by decide +kernel
theorem dX12_then_75 : decode cX12_then 75 = .ok (.iload 5, 2) := by decide +kernel
theorem dX12_then_77 : decode cX12_then 77 = .ok (.invokevirtual 499, 3) := by decide +kernel
theorem dX12_then_80 : decode cX12_then 80 = .ok (.ireturn, 1) := by decide +kernel
theorem dX12_planOf_0 : decode cX12_planOf 0 = .ok (.iconst 0, 1) := by decide +kernel
theorem dX12_planOf_1 : decode cX12_planOf 1 = .ok (.istore_n 2, 1) := by decide +kernel
theorem dX12_planOf_2 : decode cX12_planOf 2 = .ok (.iconst 0, 1) := by decide +kernel
theorem dX12_planOf_3 : decode cX12_planOf 3 = .ok (.istore_n 3, 1) := by decide +kernel
theorem dX12_planOf_4 : decode cX12_planOf 4 = .ok (.iload_n 3, 1) := by decide +kernel
theorem dX12_planOf_5 : decode cX12_planOf 5 = .ok (.bipush 16, 2) := by decide +kernel
theorem dX12_planOf_7 : decode cX12_planOf 7 = .ok (.if_icmp .ge 55, 3) := by decide +kernel
theorem dX12_planOf_10 : decode cX12_planOf 10 = .ok (.aload_n 0, 1) := by decide +kernel
theorem dX12_planOf_11 : decode cX12_planOf 11 = .ok (.getfield 133, 3) := by decide +kernel
theorem dX12_planOf_14 : decode cX12_planOf 14 = .ok (.iload_n 1, 1) := by decide +kernel
theorem dX12_planOf_15 : decode cX12_planOf 15 = .ok (.iload_n 3, 1) := by decide +kernel
theorem dX12_planOf_16 : decode cX12_planOf 16 = .ok (.iload_n 1, 1) := by decide +kernel
theorem dX12_planOf_17 : decode cX12_planOf 17 = .ok (.iload_n 3, 1) := by decide +kernel
theorem dX12_planOf_18 : decode cX12_planOf 18 = .ok (.invokestatic 489, 3) := by decide +kernel
theorem dX12_planOf_21 : decode cX12_planOf 21 = .ok (.iaload, 1) := by decide +kernel
theorem dX12_planOf_22 : decode cX12_planOf 22 = .ok (.ifCond .le 18, 3) := by decide +kernel
theorem dX12_planOf_25 : decode cX12_planOf 25 = .ok (.aload_n 0, 1) := by decide +kernel
theorem dX12_planOf_26 : decode cX12_planOf 26 = .ok (.iload_n 1, 1) := by decide +kernel
theorem dX12_planOf_27 : decode cX12_planOf 27 = .ok (.iload_n 3, 1) := by decide +kernel
theorem dX12_planOf_28 : decode cX12_planOf 28 = .ok (.aload_n 0, 1) := by decide +kernel
theorem dX12_planOf_29 : decode cX12_planOf 29 = .ok (.iload_n 1, 1) := by decide +kernel
theorem dX12_planOf_30 : decode cX12_planOf 30 = .ok (.iload_n 3, 1) := by decide +kernel
theorem dX12_planOf_31 : decode cX12_planOf 31 = .ok (.invokevirtual 503, 3) := by decide +kernel
theorem dX12_planOf_34 : decode cX12_planOf 34 = .ok (.invokevirtual 499, 3) := by decide +kernel
theorem dX12_planOf_37 : decode cX12_planOf 37 = .ok (.goto 4, 3) := by decide +kernel
theorem dX12_planOf_40 : decode cX12_planOf 40 = .ok (.iconst 0, 1) := by decide +kernel
theorem dX12_planOf_41 : decode cX12_planOf 41 = .ok (.istore 4, 2) := by decide +kernel
theorem dX12_planOf_43 : decode cX12_planOf 43 = .ok (.iload 4, 2) := by decide +kernel
theorem dX12_planOf_45 : decode cX12_planOf 45 = .ok (.iload_n 2, 1) := by decide +kernel
theorem dX12_planOf_46 : decode cX12_planOf 46 = .ok (.if_icmp .le 8, 3) := by decide +kernel
theorem dX12_planOf_49 : decode cX12_planOf 49 = .ok (.iload 4, 2) := by decide +kernel
theorem dX12_planOf_51 : decode cX12_planOf 51 = .ok (.goto 4, 3) := by decide +kernel
theorem dX12_planOf_54 : decode cX12_planOf 54 = .ok (.iload_n 2, 1) := by decide +kernel
theorem dX12_planOf_55 : decode cX12_planOf 55 = .ok (.istore_n 2, 1) := by decide +kernel
theorem dX12_planOf_56 : decode cX12_planOf 56 = .ok (.iinc 3 1, 3) := by decide +kernel
theorem dX12_planOf_59 : decode cX12_planOf 59 = .ok (.goto (-55), 3) := by decide +kernel
theorem dX12_planOf_62 : decode cX12_planOf 62 = .ok (.iload_n 2, 1) := by decide +kernel
theorem dX12_planOf_63 : decode cX12_planOf 63 = .ok (.ireturn, 1) := by decide +kernel
theorem dX12_plan_0 : decode cX12_plan 0 = .ok (.aload_n 0, 1) := by decide +kernel
theorem dX12_plan_1 : decode cX12_plan 1 = .ok (.iload_n 1, 1) := by decide +kernel
theorem dX12_plan_2 : decode cX12_plan 2 = .ok (.invokevirtual 452, 3) := by decide +kernel
theorem dX12_plan_5 : decode cX12_plan 5 = .ok (.ifCond .eq 13, 3) := by decide +kernel
theorem dX12_plan_8 : decode cX12_plan 8 = .ok (.iload_n 2, 1) := by decide +kernel
theorem dX12_plan_9 : decode cX12_plan 9 = .ok (.i2l, 1) := by decide +kernel
theorem dX12_plan_10 : decode cX12_plan 10 = .ok (.lconst 0, 1) := by decide +kernel
theorem dX12_plan_11 : decode cX12_plan 11 = .ok (.lconst 1, 1) := by decide +kernel
theorem dX12_plan_12 : decode cX12_plan 12 = .ok (.invokestatic 161, 3) := by decide +kernel
theorem dX12_plan_15 : decode cX12_plan 15 = .ok (.ifCond .ne 5, 3) := by decide +kernel
theorem dX12_plan_18 : decode cX12_plan 18 = .ok (.iconst (-1), 1) := by decide +kernel
theorem dX12_plan_19 : decode cX12_plan 19 = .ok (.ireturn, 1) := by decide +kernel
theorem dX12_plan_20 : decode cX12_plan 20 = .ok (.aload_n 0, 1) := by decide +kernel
theorem dX12_plan_21 : decode cX12_plan 21 = .ok (.iload_n 1, 1) := by decide +kernel
theorem dX12_plan_22 : decode cX12_plan 22 = .ok (.invokevirtual 493, 3) := by decide +kernel
theorem dX12_plan_25 : decode cX12_plan 25 = .ok (.bipush (-2), 2) := by decide +kernel
theorem dX12_plan_27 : decode cX12_plan 27 = .ok (.istore_n 3, 1) := by decide +kernel
theorem dX12_plan_28 : decode cX12_plan 28 = .ok (.iconst 0, 1) := by decide +kernel
theorem dX12_plan_29 : decode cX12_plan 29 = .ok (.istore 4, 2) := by decide +kernel
theorem dX12_plan_31 : decode cX12_plan 31 = .ok (.iload 4, 2) := by decide +kernel
theorem dX12_plan_33 : decode cX12_plan 33 = .ok (.aload_n 0, 1) := by decide +kernel
theorem dX12_plan_34 : decode cX12_plan 34 = .ok (.getfield 7, 3) := by decide +kernel
theorem dX12_plan_37 : decode cX12_plan 37 = .ok (.iconst 2, 1) := by decide +kernel
theorem dX12_plan_38 : decode cX12_plan 38 = .ok (.iaload, 1) := by decide +kernel
theorem dX12_plan_39 : decode cX12_plan 39 = .ok (.if_icmp .ge 36, 3) := by decide +kernel
theorem dX12_plan_42 : decode cX12_plan 42 = .ok (.iload_n 3, 1) := by decide +kernel
theorem dX12_plan_43 : decode cX12_plan 43 = .ok (.bipush (-2), 2) := by decide +kernel
theorem dX12_plan_45 : decode cX12_plan 45 = .ok (.if_icmp .eq 17, 3) := by decide +kernel
theorem dX12_plan_48 : decode cX12_plan 48 = .ok (.aload_n 0, 1) := by decide +kernel
theorem dX12_plan_49 : decode cX12_plan 49 = .ok (.iload 4, 2) := by decide +kernel
theorem dX12_plan_51 : decode cX12_plan 51 = .ok (.invokevirtual 506, 3) := by decide +kernel
theorem dX12_plan_54 : decode cX12_plan 54 = .ok (.aload_n 0, 1) := by decide +kernel
theorem dX12_plan_55 : decode cX12_plan 55 = .ok (.iload_n 3, 1) := by decide +kernel
theorem dX12_plan_56 : decode cX12_plan 56 = .ok (.invokevirtual 506, 3) := by decide +kernel
theorem dX12_plan_59 : decode cX12_plan 59 = .ok (.if_icmp .ge 8, 3) := by decide +kernel
theorem dX12_plan_62 : decode cX12_plan 62 = .ok (.iload 4, 2) := by decide +kernel
theorem dX12_plan_64 : decode cX12_plan 64 = .ok (.goto 4, 3) := by decide +kernel
theorem dX12_plan_67 : decode cX12_plan 67 = .ok (.iload_n 3, 1) := by decide +kernel
theorem dX12_plan_68 : decode cX12_plan 68 = .ok (.istore_n 3, 1) := by decide +kernel
theorem dX12_plan_69 : decode cX12_plan 69 = .ok (.iinc 4 1, 3) := by decide +kernel
theorem dX12_plan_72 : decode cX12_plan 72 = .ok (.goto (-41), 3) := by decide +kernel
theorem dX12_plan_75 : decode cX12_plan 75 = .ok (.iload_n 3, 1) := by decide +kernel
theorem dX12_plan_76 : decode cX12_plan 76 = .ok (.bipush (-2), 2) := by decide +kernel
theorem dX12_plan_78 : decode cX12_plan 78 = .ok (.if_icmp .eq 7, 3) := by decide +kernel
theorem dX12_plan_81 : decode cX12_plan 81 = .ok (.iload_n 2, 1) := by decide +kernel
theorem dX12_plan_82 : decode cX12_plan 82 = .ok (.ifCond .ne 7, 3) := by decide +kernel
theorem dX12_plan_85 : decode cX12_plan 85 = .ok (.iload_n 3, 1) := by decide +kernel
theorem dX12_plan_86 : decode cX12_plan 86 = .ok (.goto 8, 3) := by decide +kernel
theorem dX12_plan_89 : decode cX12_plan 89 = .ok (.aload_n 0, 1) := by decide +kernel
theorem dX12_plan_90 : decode cX12_plan 90 = .ok (.iload_n 3, 1) := by decide +kernel
theorem dX12_plan_91 : decode cX12_plan 91 = .ok (.invokevirtual 506, 3) := by decide +kernel
theorem dX12_plan_94 : decode cX12_plan 94 = .ok (.ireturn, 1) := by decide +kernel
theorem dX12_worstAlone_0 : decode cX12_worstAlone 0 = .ok (.iconst 0, 1) := by decide +kernel
theorem dX12_worstAlone_1 : decode cX12_worstAlone 1 = .ok (.istore_n 2, 1) := by decide +kernel
theorem dX12_worstAlone_2 : decode cX12_worstAlone 2 = .ok (.iconst 0, 1) := by decide +kernel
theorem dX12_worstAlone_3 : decode cX12_worstAlone 3 = .ok (.istore_n 3, 1) := by decide +kernel
theorem dX12_worstAlone_4 : decode cX12_worstAlone 4 = .ok (.iload_n 3, 1) := by decide +kernel
theorem dX12_worstAlone_5 : decode cX12_worstAlone 5 = .ok (.bipush 16, 2) := by decide +kernel
theorem dX12_worstAlone_7 : decode cX12_worstAlone 7 = .ok (.if_icmp .ge 40, 3) := by decide +kernel
theorem dX12_worstAlone_10 : decode cX12_worstAlone 10 = .ok (.aload_n 0, 1) := by decide +kernel
theorem dX12_worstAlone_11 : decode cX12_worstAlone 11 = .ok (.getfield 136, 3) := by decide +kernel
theorem dX12_worstAlone_14 : decode cX12_worstAlone 14 = .ok (.bipush 16, 2) := by decide +kernel
theorem dX12_worstAlone_16 : decode cX12_worstAlone 16 = .ok (.iload_n 1, 1) := by decide +kernel
theorem dX12_worstAlone_17 : decode cX12_worstAlone 17 = .ok (.imul, 1) := by decide +kernel
theorem dX12_worstAlone_18 : decode cX12_worstAlone 18 = .ok (.iload_n 3, 1) := by decide +kernel
theorem dX12_worstAlone_19 : decode cX12_worstAlone 19 = .ok (.iadd, 1) := by decide +kernel
theorem dX12_worstAlone_20 : decode cX12_worstAlone 20 = .ok (.iaload, 1) := by decide +kernel
theorem dX12_worstAlone_21 : decode cX12_worstAlone 21 = .ok (.iload_n 2, 1) := by decide +kernel
theorem dX12_worstAlone_22 : decode cX12_worstAlone 22 = .ok (.if_icmp .le 17, 3) := by decide +kernel
theorem dX12_worstAlone_25 : decode cX12_worstAlone 25 = .ok (.aload_n 0, 1) := by decide +kernel
theorem dX12_worstAlone_26 : decode cX12_worstAlone 26 = .ok (.getfield 136, 3) := by decide +kernel
theorem dX12_worstAlone_29 : decode cX12_worstAlone 29 = .ok (.bipush 16, 2) := by decide +kernel
theorem dX12_worstAlone_31 : decode cX12_worstAlone 31 = .ok (.iload_n 1, 1) := by decide +kernel
theorem dX12_worstAlone_32 : decode cX12_worstAlone 32 = .ok (.imul, 1) := by decide +kernel
theorem dX12_worstAlone_33 : decode cX12_worstAlone 33 = .ok (.iload_n 3, 1) := by decide +kernel
theorem dX12_worstAlone_34 : decode cX12_worstAlone 34 = .ok (.iadd, 1) := by decide +kernel
theorem dX12_worstAlone_35 : decode cX12_worstAlone 35 = .ok (.iaload, 1) := by decide +kernel
theorem dX12_worstAlone_36 : decode cX12_worstAlone 36 = .ok (.goto 4, 3) := by decide +kernel
theorem dX12_worstAlone_39 : decode cX12_worstAlone 39 = .ok (.iload_n 2, 1) := by decide +kernel
theorem dX12_worstAlone_40 : decode cX12_worstAlone 40 = .ok (.istore_n 2, 1) := by decide +kernel
theorem dX12_worstAlone_41 : decode cX12_worstAlone 41 = .ok (.iinc 3 1, 3) := by decide +kernel
theorem dX12_worstAlone_44 : decode cX12_worstAlone 44 = .ok (.goto (-40), 3) := by decide +kernel
theorem dX12_worstAlone_47 : decode cX12_worstAlone 47 = .ok (.iload_n 2, 1) := by decide +kernel
theorem dX12_worstAlone_48 : decode cX12_worstAlone 48 = .ok (.ireturn, 1) := by decide +kernel
theorem dX12_fresh_0 : decode cX12_fresh 0 = .ok (.aload_n 0, 1) := by decide +kernel
theorem dX12_fresh_1 : decode cX12_fresh 1 = .ok (.iload_n 1, 1) := by decide +kernel
theorem dX12_fresh_2 : decode cX12_fresh 2 = .ok (.invokevirtual 452, 3) := by decide +kernel
theorem dX12_fresh_5 : decode cX12_fresh 5 = .ok (.ifCond .eq 25, 3) := by decide +kernel
theorem dX12_fresh_8 : decode cX12_fresh 8 = .ok (.iload_n 2, 1) := by decide +kernel
theorem dX12_fresh_9 : decode cX12_fresh 9 = .ok (.i2l, 1) := by decide +kernel
theorem dX12_fresh_10 : decode cX12_fresh 10 = .ok (.lconst 1, 1) := by decide +kernel
theorem dX12_fresh_11 : decode cX12_fresh 11 = .ok (.ldc2_w 509, 3) := by decide +kernel
theorem dX12_fresh_14 : decode cX12_fresh 14 = .ok (.invokestatic 161, 3) := by decide +kernel
theorem dX12_fresh_17 : decode cX12_fresh 17 = .ok (.ifCond .eq 13, 3) := by decide +kernel
theorem dX12_fresh_20 : decode cX12_fresh 20 = .ok (.iload_n 3, 1) := by decide +kernel
theorem dX12_fresh_21 : decode cX12_fresh 21 = .ok (.i2l, 1) := by decide +kernel
theorem dX12_fresh_22 : decode cX12_fresh 22 = .ok (.lconst 0, 1) := by decide +kernel
theorem dX12_fresh_23 : decode cX12_fresh 23 = .ok (.lconst 1, 1) := by decide +kernel
theorem dX12_fresh_24 : decode cX12_fresh 24 = .ok (.invokestatic 161, 3) := by decide +kernel
theorem dX12_fresh_27 : decode cX12_fresh 27 = .ok (.ifCond .ne 5, 3) := by decide +kernel
theorem dX12_fresh_30 : decode cX12_fresh 30 = .ok (.iconst (-1), 1) := by decide +kernel
theorem dX12_fresh_31 : decode cX12_fresh 31 = .ok (.ireturn, 1) := by decide +kernel
theorem dX12_fresh_32 : decode cX12_fresh 32 = .ok (.iconst 0, 1) := by decide +kernel
theorem dX12_fresh_33 : decode cX12_fresh 33 = .ok (.istore 4, 2) := by decide +kernel
theorem dX12_fresh_35 : decode cX12_fresh 35 = .ok (.iload 4, 2) := by decide +kernel
theorem dX12_fresh_37 : decode cX12_fresh 37 = .ok (.aload_n 0, 1) := by decide +kernel
theorem dX12_fresh_38 : decode cX12_fresh 38 = .ok (.getfield 136, 3) := by decide +kernel
theorem dX12_fresh_41 : decode cX12_fresh 41 = .ok (.arraylength, 1) := by decide +kernel
theorem dX12_fresh_42 : decode cX12_fresh 42 = .ok (.if_icmp .ge 17, 3) := by decide +kernel
theorem dX12_fresh_45 : decode cX12_fresh 45 = .ok (.aload_n 0, 1) := by decide +kernel
theorem dX12_fresh_46 : decode cX12_fresh 46 = .ok (.getfield 136, 3) := by decide +kernel
theorem dX12_fresh_49 : decode cX12_fresh 49 = .ok (.iload 4, 2) := by decide +kernel
theorem dX12_fresh_51 : decode cX12_fresh 51 = .ok (.iconst 0, 1) := by decide +kernel
theorem dX12_fresh_52 : decode cX12_fresh 52 = .ok (.iastore, 1) := by decide +kernel
theorem dX12_fresh_53 : decode cX12_fresh 53 = .ok (.iinc 4 1, 3) := by decide +kernel
theorem dX12_fresh_56 : decode cX12_fresh 56 = .ok (.goto (-21), 3) := by decide +kernel
theorem dX12_fresh_59 : decode cX12_fresh 59 = .ok (.aload_n 0, 1) := by decide +kernel
theorem dX12_fresh_60 : decode cX12_fresh 60 = .ok (.invokevirtual 446, 3) := by decide +kernel
theorem dX12_fresh_63 : decode cX12_fresh 63 = .ok (.iconst 0, 1) := by decide +kernel
theorem dX12_fresh_64 : decode cX12_fresh 64 = .ok (.istore 4, 2) := by decide +kernel
theorem dX12_fresh_66 : decode cX12_fresh 66 = .ok (.iload 4, 2) := by decide +kernel
theorem dX12_fresh_68 : decode cX12_fresh 68 = .ok (.bipush 36, 2) := by decide +kernel
theorem dX12_fresh_70 : decode cX12_fresh 70 = .ok (.if_icmp .ge 45, 3) := by decide +kernel
theorem dX12_fresh_73 : decode cX12_fresh 73 = .ok (.aload_n 0, 1) := by decide +kernel
theorem dX12_fresh_74 : decode cX12_fresh 74 = .ok (.getfield 124, 3) := by decide +kernel
theorem dX12_fresh_77 : decode cX12_fresh 77 = .ok (.iload 4, 2) := by decide +kernel
theorem dX12_fresh_79 : decode cX12_fresh 79 = .ok (.aload_n 0, 1) := by decide +kernel
theorem dX12_fresh_80 : decode cX12_fresh 80 = .ok (.iload 4, 2) := by decide +kernel
theorem dX12_fresh_82 : decode cX12_fresh 82 = .ok (.invokevirtual 187, 3) := by decide +kernel
theorem dX12_fresh_85 : decode cX12_fresh 85 = .ok (.ifCond .eq 22, 3) := by decide +kernel
theorem dX12_fresh_88 : decode cX12_fresh 88 = .ok (.aload_n 0, 1) := by decide +kernel
theorem dX12_fresh_89 : decode cX12_fresh 89 = .ok (.iload 4, 2) := by decide +kernel
theorem dX12_fresh_91 : decode cX12_fresh 91 = .ok (.invokevirtual 183, 3) := by decide +kernel
theorem dX12_fresh_94 : decode cX12_fresh 94 = .ok (.ifCond .ne 13, 3) := by decide +kernel
theorem dX12_fresh_97 : decode cX12_fresh 97 = .ok (.aload_n 0, 1) := by decide +kernel
theorem dX12_fresh_98 : decode cX12_fresh 98 = .ok (.iload 4, 2) := by decide +kernel
theorem dX12_fresh_100 : decode cX12_fresh 100 = .ok (.iload_n 2, 1) := by decide +kernel
theorem dX12_fresh_101 : decode cX12_fresh 101 = .ok (.invokevirtual 197, 3) := by decide +kernel
theorem dX12_fresh_104 : decode cX12_fresh 104 = .ok (.goto 4, 3) := by decide +kernel
theorem dX12_fresh_107 : decode cX12_fresh 107 = .ok (.lconst 0, 1) := by decide +kernel
theorem dX12_fresh_108 : decode cX12_fresh 108 = .ok (.lastore, 1) := by decide +kernel
theorem dX12_fresh_109 : decode cX12_fresh 109 = .ok (.iinc 4 1, 3) := by decide +kernel
theorem dX12_fresh_112 : decode cX12_fresh 112 = .ok (.goto (-46), 3) := by decide +kernel
theorem dX12_fresh_115 : decode cX12_fresh 115 = .ok (.aload_n 0, 1) := by decide +kernel
theorem dX12_fresh_116 : decode cX12_fresh 116 = .ok (.iload_n 1, 1) := by decide +kernel
theorem dX12_fresh_117 : decode cX12_fresh 117 = .ok (.invokevirtual 449, 3) := by decide +kernel
theorem dX12_fresh_120 : decode cX12_fresh 120 = .ok (.ifCond .eq 60, 3) := by decide +kernel
theorem dX12_fresh_123 : decode cX12_fresh 123 = .ok (.iconst 0, 1) := by decide +kernel
theorem dX12_fresh_124 : decode cX12_fresh 124 = .ok (.istore 4, 2) := by decide +kernel
theorem dX12_fresh_126 : decode cX12_fresh 126 = .ok (.iload 4, 2) := by decide +kernel
theorem dX12_fresh_128 : decode cX12_fresh 128 = .ok (.bipush 36, 2) := by decide +kernel
theorem dX12_fresh_130 : decode cX12_fresh 130 = .ok (.if_icmp .ge 47, 3) := by decide +kernel
theorem dX12_fresh_133 : decode cX12_fresh 133 = .ok (.aload_n 0, 1) := by decide +kernel
theorem dX12_fresh_134 : decode cX12_fresh 134 = .ok (.getfield 124, 3) := by decide +kernel
theorem dX12_fresh_137 : decode cX12_fresh 137 = .ok (.iload 4, 2) := by decide +kernel
theorem dX12_fresh_139 : decode cX12_fresh 139 = .ok (.laload, 1) := by decide +kernel
theorem dX12_fresh_140 : decode cX12_fresh 140 = .ok (.lconst 0, 1) := by decide +kernel
theorem dX12_fresh_141 : decode cX12_fresh 141 = .ok (.lcmp, 1) := by decide +kernel
theorem dX12_fresh_142 : decode cX12_fresh 142 = .ok (.ifCond .eq 29, 3) := by decide +kernel
theorem dX12_fresh_145 : decode cX12_fresh 145 = .ok (.aload_n 0, 1) := by decide +kernel
theorem dX12_fresh_146 : decode cX12_fresh 146 = .ok (.getfield 136, 3) := by decide +kernel
theorem dX12_fresh_149 : decode cX12_fresh 149 = .ok (.bipush 16, 2) := by decide +kernel
theorem dX12_fresh_151 : decode cX12_fresh 151 = .ok (.iload 4, 2) := by decide +kernel
theorem dX12_fresh_153 : decode cX12_fresh 153 = .ok (.imul, 1) := by decide +kernel
theorem dX12_fresh_154 : decode cX12_fresh 154 = .ok (.aload_n 0, 1) := by decide +kernel
theorem dX12_fresh_155 : decode cX12_fresh 155 = .ok (.aload_n 0, 1) := by decide +kernel
theorem dX12_fresh_156 : decode cX12_fresh 156 = .ok (.getfield 124, 3) := by decide +kernel
theorem dX12_fresh_159 : decode cX12_fresh 159 = .ok (.iload 4, 2) := by decide +kernel
theorem dX12_fresh_161 : decode cX12_fresh 161 = .ok (.laload, 1) := by decide +kernel
theorem dX12_fresh_162 : decode cX12_fresh 162 = .ok (.invokevirtual 485, 3) := by decide +kernel
theorem dX12_fresh_165 : decode cX12_fresh 165 = .ok (.iadd, 1) := by decide +kernel
theorem dX12_fresh_166 : decode cX12_fresh 166 = .ok (.dup2, 1) := by decide +kernel
theorem dX12_fresh_167 : decode cX12_fresh 167 = .ok (.iaload, 1) := by decide +kernel
theorem dX12_fresh_168 : decode cX12_fresh 168 = .ok (.iconst 1, 1) := by decide +kernel
theorem dX12_fresh_169 : decode cX12_fresh 169 = .ok (.iadd, 1) := by decide +kernel
theorem dX12_fresh_170 : decode cX12_fresh 170 = .ok (.iastore, 1) := by decide +kernel
theorem dX12_fresh_171 : decode cX12_fresh 171 = .ok (.iinc 4 1, 3) := by decide +kernel
theorem dX12_fresh_174 : decode cX12_fresh 174 = .ok (.goto (-48), 3) := by decide +kernel
theorem dX12_fresh_177 : decode cX12_fresh 177 = .ok (.goto (-62), 3) := by decide +kernel
theorem dX12_fresh_180 : decode cX12_fresh 180 = .ok (.bipush (-2), 2) := by decide +kernel
theorem dX12_fresh_182 : decode cX12_fresh 182 = .ok (.istore 4, 2) := by decide +kernel
theorem dX12_fresh_184 : decode cX12_fresh 184 = .ok (.iconst 0, 1) := by decide +kernel
theorem dX12_fresh_185 : decode cX12_fresh 185 = .ok (.istore 5, 2) := by decide +kernel
theorem dX12_fresh_187 : decode cX12_fresh 187 = .ok (.iload 5, 2) := by decide +kernel
theorem dX12_fresh_189 : decode cX12_fresh 189 = .ok (.bipush 36, 2) := by decide +kernel
theorem dX12_fresh_191 : decode cX12_fresh 191 = .ok (.if_icmp .ge 52, 3) := by decide +kernel
theorem dX12_fresh_194 : decode cX12_fresh 194 = .ok (.aload_n 0, 1) := by decide +kernel
theorem dX12_fresh_195 : decode cX12_fresh 195 = .ok (.getfield 124, 3) := by decide +kernel
theorem dX12_fresh_198 : decode cX12_fresh 198 = .ok (.iload 5, 2) := by decide +kernel
theorem dX12_fresh_200 : decode cX12_fresh 200 = .ok (.laload, 1) := by decide +kernel
theorem dX12_fresh_201 : decode cX12_fresh 201 = .ok (.lconst 0, 1) := by decide +kernel
theorem dX12_fresh_202 : decode cX12_fresh 202 = .ok (.lcmp, 1) := by decide +kernel
theorem dX12_fresh_203 : decode cX12_fresh 203 = .ok (.ifCond .eq 30, 3) := by decide +kernel
theorem dX12_fresh_206 : decode cX12_fresh 206 = .ok (.iload 4, 2) := by decide +kernel
theorem dX12_fresh_208 : decode cX12_fresh 208 = .ok (.bipush (-2), 2) := by decide +kernel
theorem dX12_fresh_210 : decode cX12_fresh 210 = .ok (.if_icmp .eq 18, 3) := by decide +kernel
theorem dX12_fresh_213 : decode cX12_fresh 213 = .ok (.aload_n 0, 1) := by decide +kernel
theorem dX12_fresh_214 : decode cX12_fresh 214 = .ok (.iload 5, 2) := by decide +kernel
theorem dX12_fresh_216 : decode cX12_fresh 216 = .ok (.invokevirtual 511, 3) := by decide +kernel
theorem dX12_fresh_219 : decode cX12_fresh 219 = .ok (.aload_n 0, 1) := by decide +kernel
theorem dX12_fresh_220 : decode cX12_fresh 220 = .ok (.iload 4, 2) := by decide +kernel
theorem dX12_fresh_222 : decode cX12_fresh 222 = .ok (.invokevirtual 511, 3) := by decide +kernel
theorem dX12_fresh_225 : decode cX12_fresh 225 = .ok (.if_icmp .ge 8, 3) := by decide +kernel
theorem dX12_fresh_228 : decode cX12_fresh 228 = .ok (.iload 5, 2) := by decide +kernel
theorem dX12_fresh_230 : decode cX12_fresh 230 = .ok (.goto 5, 3) := by decide +kernel
theorem dX12_fresh_233 : decode cX12_fresh 233 = .ok (.iload 4, 2) := by decide +kernel
theorem dX12_fresh_235 : decode cX12_fresh 235 = .ok (.istore 4, 2) := by decide +kernel
theorem dX12_fresh_237 : decode cX12_fresh 237 = .ok (.iinc 5 1, 3) := by decide +kernel
theorem dX12_fresh_240 : decode cX12_fresh 240 = .ok (.goto (-53), 3) := by decide +kernel
theorem dX12_fresh_243 : decode cX12_fresh 243 = .ok (.iload 4, 2) := by decide +kernel
theorem dX12_fresh_245 : decode cX12_fresh 245 = .ok (.bipush (-2), 2) := by decide +kernel
theorem dX12_fresh_247 : decode cX12_fresh 247 = .ok (.if_icmp .eq 7, 3) := by decide +kernel
theorem dX12_fresh_250 : decode cX12_fresh 250 = .ok (.iload_n 3, 1) := by decide +kernel
theorem dX12_fresh_251 : decode cX12_fresh 251 = .ok (.ifCond .ne 8, 3) := by decide +kernel
theorem dX12_fresh_254 : decode cX12_fresh 254 = .ok (.iload 4, 2) := by decide +kernel
theorem dX12_fresh_256 : decode cX12_fresh 256 = .ok (.goto 9, 3) := by decide +kernel
theorem dX12_fresh_259 : decode cX12_fresh 259 = .ok (.aload_n 0, 1) := by decide +kernel
theorem dX12_fresh_260 : decode cX12_fresh 260 = .ok (.iload 4, 2) := by decide +kernel
theorem dX12_fresh_262 : decode cX12_fresh 262 = .ok (.invokevirtual 511, 3) := by decide +kernel
theorem dX12_fresh_265 : decode cX12_fresh 265 = .ok (.ireturn, 1) := by decide +kernel
theorem dX12_spreads_0 : decode cX12_spreads 0 = .ok (.iconst 0, 1) := by decide +kernel
theorem dX12_spreads_1 : decode cX12_spreads 1 = .ok (.istore_n 2, 1) := by decide +kernel
theorem dX12_spreads_2 : decode cX12_spreads 2 = .ok (.iload_n 2, 1) := by decide +kernel
theorem dX12_spreads_3 : decode cX12_spreads 3 = .ok (.bipush 36, 2) := by decide +kernel
theorem dX12_spreads_5 : decode cX12_spreads 5 = .ok (.if_icmp .ge 18, 3) := by decide +kernel
theorem dX12_spreads_8 : decode cX12_spreads 8 = .ok (.aload_n 0, 1) := by decide +kernel
theorem dX12_spreads_9 : decode cX12_spreads 9 = .ok (.getfield 139, 3) := by decide +kernel
theorem dX12_spreads_12 : decode cX12_spreads 12 = .ok (.iload_n 2, 1) := by decide +kernel
theorem dX12_spreads_13 : decode cX12_spreads 13 = .ok (.ldc_w 286, 3) := by decide +kernel
theorem dX12_spreads_16 : decode cX12_spreads 16 = .ok (.iastore, 1) := by decide +kernel
theorem dX12_spreads_17 : decode cX12_spreads 17 = .ok (.iinc 2 1, 3) := by decide +kernel
theorem dX12_spreads_20 : decode cX12_spreads 20 = .ok (.goto (-18), 3) := by decide +kernel
theorem dX12_spreads_23 : decode cX12_spreads 23 = .ok (.aload_n 0, 1) := by decide +kernel
theorem dX12_spreads_24 : decode cX12_spreads 24 = .ok (.getfield 139, 3) := by decide +kernel
theorem dX12_spreads_27 : decode cX12_spreads 27 = .ok (.iload_n 1, 1) := by decide +kernel
theorem dX12_spreads_28 : decode cX12_spreads 28 = .ok (.iconst 0, 1) := by decide +kernel
theorem dX12_spreads_29 : decode cX12_spreads 29 = .ok (.iastore, 1) := by decide +kernel
theorem dX12_spreads_30 : decode cX12_spreads 30 = .ok (.aload_n 0, 1) := by decide +kernel
theorem dX12_spreads_31 : decode cX12_spreads 31 = .ok (.getfield 142, 3) := by decide +kernel
theorem dX12_spreads_34 : decode cX12_spreads 34 = .ok (.iconst 0, 1) := by decide +kernel
theorem dX12_spreads_35 : decode cX12_spreads 35 = .ok (.iload_n 1, 1) := by decide +kernel
theorem dX12_spreads_36 : decode cX12_spreads 36 = .ok (.iastore, 1) := by decide +kernel
theorem dX12_spreads_37 : decode cX12_spreads 37 = .ok (.iconst 1, 1) := by decide +kernel
theorem dX12_spreads_38 : decode cX12_spreads 38 = .ok (.istore_n 2, 1) := by decide +kernel
theorem dX12_spreads_39 : decode cX12_spreads 39 = .ok (.iconst 0, 1) := by decide +kernel
theorem dX12_spreads_40 : decode cX12_spreads 40 = .ok (.istore_n 3, 1) := by decide +kernel
theorem dX12_spreads_41 : decode cX12_spreads 41 = .ok (.iload_n 3, 1) := by decide +kernel
theorem dX12_spreads_42 : decode cX12_spreads 42 = .ok (.iload_n 2, 1) := by decide +kernel
theorem dX12_spreads_43 : decode cX12_spreads 43 = .ok (.if_icmp .ge 102, 3) := by decide +kernel
theorem dX12_spreads_46 : decode cX12_spreads 46 = .ok (.iconst 0, 1) := by decide +kernel
theorem dX12_spreads_47 : decode cX12_spreads 47 = .ok (.istore 4, 2) := by decide +kernel
theorem dX12_spreads_49 : decode cX12_spreads 49 = .ok (.iload 4, 2) := by decide +kernel
theorem dX12_spreads_51 : decode cX12_spreads 51 = .ok (.bipush 36, 2) := by decide +kernel
theorem dX12_spreads_53 : decode cX12_spreads 53 = .ok (.if_icmp .ge 86, 3) := by decide +kernel
theorem dX12_spreads_56 : decode cX12_spreads 56 = .ok (.aload_n 0, 1) := by decide +kernel
theorem dX12_spreads_57 : decode cX12_spreads 57 = .ok (.iload 4, 2) := by decide +kernel
theorem dX12_spreads_59 : decode cX12_spreads 59 = .ok (.invokevirtual 187, 3) := by decide +kernel
theorem dX12_spreads_62 : decode cX12_spreads 62 = .ok (.ifCond .eq 71, 3) := by decide +kernel
theorem dX12_spreads_65 : decode cX12_spreads 65 = .ok (.aload_n 0, 1) := by decide +kernel
theorem dX12_spreads_66 : decode cX12_spreads 66 = .ok (.iload 4, 2) := by decide +kernel
theorem dX12_spreads_68 : decode cX12_spreads 68 = .ok (.invokevirtual 183, 3) := by decide +kernel
theorem dX12_spreads_71 : decode cX12_spreads 71 = .ok (.ifCond .ne 62, 3) := by decide +kernel
theorem dX12_spreads_74 : decode cX12_spreads 74 = .ok (.iload 4, 2) := by decide +kernel
theorem dX12_spreads_76 : decode cX12_spreads 76 = .ok (.aload_n 0, 1) := by decide +kernel
theorem dX12_spreads_77 : decode cX12_spreads 77 = .ok (.getfield 142, 3) := by decide +kernel
theorem dX12_spreads_80 : decode cX12_spreads 80 = .ok (.iload_n 3, 1) := by decide +kernel
theorem dX12_spreads_81 : decode cX12_spreads 81 = .ok (.iaload, 1) := by decide +kernel
theorem dX12_spreads_82 : decode cX12_spreads 82 = .ok (.invokestatic 176, 3) := by decide +kernel
theorem dX12_spreads_85 : decode cX12_spreads 85 = .ok (.iconst 1, 1) := by decide +kernel
theorem dX12_spreads_86 : decode cX12_spreads 86 = .ok (.if_icmp .ne 47, 3) := by decide +kernel
theorem dX12_spreads_89 : decode cX12_spreads 89 = .ok (.aload_n 0, 1) := by decide +kernel
theorem dX12_spreads_90 : decode cX12_spreads 90 = .ok (.getfield 139, 3) := by decide +kernel
theorem dX12_spreads_93 : decode cX12_spreads 93 = .ok (.iload 4, 2) := by decide +kernel
theorem dX12_spreads_95 : decode cX12_spreads 95 = .ok (.iaload, 1) := by decide +kernel
theorem dX12_spreads_96 : decode cX12_spreads 96 = .ok (.ldc_w 286, 3) := by decide +kernel
theorem dX12_spreads_99 : decode cX12_spreads 99 = .ok (.if_icmp .ne 34, 3) := by decide +kernel
theorem dX12_spreads_102 : decode cX12_spreads 102 = .ok (.aload_n 0, 1) := by decide +kernel
theorem dX12_spreads_103 : decode cX12_spreads 103 = .ok (.getfield 139, 3) := by decide +kernel
theorem dX12_spreads_106 : decode cX12_spreads 106 = .ok (.iload 4, 2) := by decide +kernel
theorem dX12_spreads_108 : decode cX12_spreads 108 = .ok (.aload_n 0, 1) := by decide +kernel
theorem dX12_spreads_109 : decode cX12_spreads 109 = .ok (.getfield 139, 3) := by decide +kernel
theorem dX12_spreads_112 : decode cX12_spreads 112 = .ok (.aload_n 0, 1) := by decide +kernel
theorem dX12_spreads_113 : decode cX12_spreads 113 = .ok (.getfield 142, 3) := by decide +kernel
theorem dX12_spreads_116 : decode cX12_spreads 116 = .ok (.iload_n 3, 1) := by decide +kernel
theorem dX12_spreads_117 : decode cX12_spreads 117 = .ok (.iaload, 1) := by decide +kernel
theorem dX12_spreads_118 : decode cX12_spreads 118 = .ok (.iaload, 1) := by decide +kernel
theorem dX12_spreads_119 : decode cX12_spreads 119 = .ok (.iconst 1, 1) := by decide +kernel
theorem dX12_spreads_120 : decode cX12_spreads 120 = .ok (.iadd, 1) := by decide +kernel
theorem dX12_spreads_121 : decode cX12_spreads 121 = .ok (.iastore, 1) := by decide +kernel
theorem dX12_spreads_122 : decode cX12_spreads 122 = .ok (.aload_n 0, 1) := by decide +kernel
theorem dX12_spreads_123 : decode cX12_spreads 123 = .ok (.getfield 142, 3) := by decide +kernel
theorem dX12_spreads_126 : decode cX12_spreads 126 = .ok (.iload_n 2, 1) := by decide +kernel
theorem dX12_spreads_127 : decode cX12_spreads 127 = .ok (.iload 4, 2) := by decide +kernel
theorem dX12_spreads_129 : decode cX12_spreads 129 = .ok (.iastore, 1) := by decide +kernel
theorem dX12_spreads_130 : decode cX12_spreads 130 = .ok (.iinc 2 1, 3) := by decide +kernel
theorem dX12_spreads_133 : decode cX12_spreads 133 = .ok (.iinc 4 1, 3) := by decide +kernel
theorem dX12_spreads_136 : decode cX12_spreads 136 = .ok (.goto (-87), 3) := by decide +kernel
theorem dX12_spreads_139 : decode cX12_spreads 139 = .ok (.iinc 3 1, 3) := by decide +kernel
theorem dX12_spreads_142 : decode cX12_spreads 142 = .ok (.goto (-101), 3) := by decide +kernel
theorem dX12_spreads_145 : decode cX12_spreads 145 = .ok (.return_, 1) := by decide +kernel
theorem dX12_walk_0 : decode cX12_walk 0 = .ok (.aload_n 0, 1) := by decide +kernel
theorem dX12_walk_1 : decode cX12_walk 1 = .ok (.iload_n 1, 1) := by decide +kernel
theorem dX12_walk_2 : decode cX12_walk 2 = .ok (.invokevirtual 194, 3) := by decide +kernel
theorem dX12_walk_5 : decode cX12_walk 5 = .ok (.ifCond .eq 23, 3) := by decide +kernel
theorem dX12_walk_8 : decode cX12_walk 8 = .ok (.iload_n 2, 1) := by decide +kernel
theorem dX12_walk_9 : decode cX12_walk 9 = .ok (.i2l, 1) := by decide +kernel
theorem dX12_walk_10 : decode cX12_walk 10 = .ok (.lconst 0, 1) := by decide +kernel
theorem dX12_walk_11 : decode cX12_walk 11 = .ok (.iconst 1, 1) := by decide +kernel
theorem dX12_walk_12 : decode cX12_walk 12 = .ok (.aload_n 0, 1) := by decide +kernel
theorem dX12_walk_13 : decode cX12_walk 13 = .ok (.getfield 7, 3) := by decide +kernel
theorem dX12_walk_16 : decode cX12_walk 16 = .ok (.iconst 2, 1) := by decide +kernel
theorem dX12_walk_17 : decode cX12_walk 17 = .ok (.iaload, 1) := by decide +kernel
theorem dX12_walk_18 : decode cX12_walk 18 = .ok (.ishl, 1) := by decide +kernel
theorem dX12_walk_19 : decode cX12_walk 19 = .ok (.iconst 1, 1) := by decide +kernel
theorem dX12_walk_20 : decode cX12_walk 20 = .ok (.isub, 1) := by decide +kernel
theorem dX12_walk_21 : decode cX12_walk 21 = .ok (.i2l, 1) := by decide +kernel
theorem dX12_walk_22 : decode cX12_walk 22 = .ok (.invokestatic 161, 3) := by decide +kernel
theorem dX12_walk_25 : decode cX12_walk 25 = .ok (.ifCond .ne 5, 3) := by decide +kernel
theorem dX12_walk_28 : decode cX12_walk 28 = .ok (.iconst (-1), 1) := by decide +kernel
theorem dX12_walk_29 : decode cX12_walk 29 = .ok (.ireturn, 1) := by decide +kernel
theorem dX12_walk_30 : decode cX12_walk 30 = .ok (.iconst 0, 1) := by decide +kernel
theorem dX12_walk_31 : decode cX12_walk 31 = .ok (.istore_n 3, 1) := by decide +kernel
theorem dX12_walk_32 : decode cX12_walk 32 = .ok (.iload_n 3, 1) := by decide +kernel
theorem dX12_walk_33 : decode cX12_walk 33 = .ok (.aload_n 0, 1) := by decide +kernel
theorem dX12_walk_34 : decode cX12_walk 34 = .ok (.getfield 7, 3) := by decide +kernel
theorem dX12_walk_37 : decode cX12_walk 37 = .ok (.iconst 2, 1) := by decide +kernel
theorem dX12_walk_38 : decode cX12_walk 38 = .ok (.iaload, 1) := by decide +kernel
theorem dX12_walk_39 : decode cX12_walk 39 = .ok (.if_icmp .ge 63, 3) := by decide +kernel
theorem dX12_walk_42 : decode cX12_walk 42 = .ok (.aload_n 0, 1) := by decide +kernel
theorem dX12_walk_43 : decode cX12_walk 43 = .ok (.aload_n 0, 1) := by decide +kernel
theorem dX12_walk_44 : decode cX12_walk 44 = .ok (.getfield 16, 3) := by decide +kernel
theorem dX12_walk_47 : decode cX12_walk 47 = .ok (.iload_n 3, 1) := by decide +kernel
theorem dX12_walk_48 : decode cX12_walk 48 = .ok (.iaload, 1) := by decide +kernel
theorem dX12_walk_49 : decode cX12_walk 49 = .ok (.invokevirtual 514, 3) := by decide +kernel
theorem dX12_walk_52 : decode cX12_walk 52 = .ok (.iconst 0, 1) := by decide +kernel
theorem dX12_walk_53 : decode cX12_walk 53 = .ok (.istore 4, 2) := by decide +kernel
theorem dX12_walk_55 : decode cX12_walk 55 = .ok (.iload 4, 2) := by decide +kernel
theorem dX12_walk_57 : decode cX12_walk 57 = .ok (.aload_n 0, 1) := by decide +kernel
theorem dX12_walk_58 : decode cX12_walk 58 = .ok (.getfield 7, 3) := by decide +kernel
theorem dX12_walk_61 : decode cX12_walk 61 = .ok (.iconst 2, 1) := by decide +kernel
theorem dX12_walk_62 : decode cX12_walk 62 = .ok (.iaload, 1) := by decide +kernel
theorem dX12_walk_63 : decode cX12_walk 63 = .ok (.if_icmp .ge 33, 3) := by decide +kernel
theorem dX12_walk_66 : decode cX12_walk 66 = .ok (.aload_n 0, 1) := by decide +kernel
theorem dX12_walk_67 : decode cX12_walk 67 = .ok (.getfield 145, 3) := by decide +kernel
theorem dX12_walk_70 : decode cX12_walk 70 = .ok (.bipush 8, 2) := by decide +kernel
theorem dX12_walk_72 : decode cX12_walk 72 = .ok (.iload_n 3, 1) := by decide +kernel
theorem dX12_walk_73 : decode cX12_walk 73 = .ok (.imul, 1) := by decide +kernel
theorem dX12_walk_74 : decode cX12_walk 74 = .ok (.iload 4, 2) := by decide +kernel
theorem dX12_walk_76 : decode cX12_walk 76 = .ok (.iadd, 1) := by decide +kernel
theorem dX12_walk_77 : decode cX12_walk 77 = .ok (.aload_n 0, 1) := by decide +kernel
theorem dX12_walk_78 : decode cX12_walk 78 = .ok (.getfield 139, 3) := by decide +kernel
theorem dX12_walk_81 : decode cX12_walk 81 = .ok (.aload_n 0, 1) := by decide +kernel
theorem dX12_walk_82 : decode cX12_walk 82 = .ok (.getfield 16, 3) := by decide +kernel
theorem dX12_walk_85 : decode cX12_walk 85 = .ok (.iload 4, 2) := by decide +kernel
theorem dX12_walk_87 : decode cX12_walk 87 = .ok (.iaload, 1) := by decide +kernel
theorem dX12_walk_88 : decode cX12_walk 88 = .ok (.iaload, 1) := by decide +kernel
theorem dX12_walk_89 : decode cX12_walk 89 = .ok (.iastore, 1) := by decide +kernel
theorem dX12_walk_90 : decode cX12_walk 90 = .ok (.iinc 4 1, 3) := by decide +kernel
theorem dX12_walk_93 : decode cX12_walk 93 = .ok (.goto (-38), 3) := by decide +kernel
theorem dX12_walk_96 : decode cX12_walk 96 = .ok (.iinc 3 1, 3) := by decide +kernel
theorem dX12_walk_99 : decode cX12_walk 99 = .ok (.goto (-67), 3) := by decide +kernel
theorem dX12_walk_102 : decode cX12_walk 102 = .ok (.iconst 0, 1) := by decide +kernel
theorem dX12_walk_103 : decode cX12_walk 103 = .ok (.istore_n 3, 1) := by decide +kernel
theorem dX12_walk_104 : decode cX12_walk 104 = .ok (.iload_n 3, 1) := by decide +kernel
theorem dX12_walk_105 : decode cX12_walk 105 = .ok (.aload_n 0, 1) := by decide +kernel
theorem dX12_walk_106 : decode cX12_walk 106 = .ok (.getfield 148, 3) := by decide +kernel
theorem dX12_walk_109 : decode cX12_walk 109 = .ok (.arraylength, 1) := by decide +kernel
theorem dX12_walk_110 : decode cX12_walk 110 = .ok (.if_icmp .ge 18, 3) := by decide +kernel
theorem dX12_walk_113 : decode cX12_walk 113 = .ok (.aload_n 0, 1) := by decide +kernel
theorem dX12_walk_114 : decode cX12_walk 114 = .ok (.getfield 148, 3) := by decide +kernel
theorem dX12_walk_117 : decode cX12_walk 117 = .ok (.iload_n 3, 1) := by decide +kernel
theorem dX12_walk_118 : decode cX12_walk 118 = .ok (.ldc_w 286, 3) := by decide +kernel
theorem dX12_walk_121 : decode cX12_walk 121 = .ok (.iastore, 1) := by decide +kernel
theorem dX12_walk_122 : decode cX12_walk 122 = .ok (.iinc 3 1, 3) := by decide +kernel
theorem dX12_walk_125 : decode cX12_walk 125 = .ok (.goto (-21), 3) := by decide +kernel
theorem dX12_walk_128 : decode cX12_walk 128 = .ok (.iconst 1, 1) := by decide +kernel
theorem dX12_walk_129 : decode cX12_walk 129 = .ok (.iload_n 1, 1) := by decide +kernel
theorem dX12_walk_130 : decode cX12_walk 130 = .ok (.ishl, 1) := by decide +kernel
theorem dX12_walk_131 : decode cX12_walk 131 = .ok (.iload_n 2, 1) := by decide +kernel
theorem dX12_walk_132 : decode cX12_walk 132 = .ok (.iand, 1) := by decide +kernel
theorem dX12_walk_133 : decode cX12_walk 133 = .ok (.istore_n 3, 1) := by decide +kernel
theorem dX12_walk_134 : decode cX12_walk 134 = .ok (.aload_n 0, 1) := by decide +kernel
theorem dX12_walk_135 : decode cX12_walk 135 = .ok (.getfield 148, 3) := by decide +kernel
theorem dX12_walk_138 : decode cX12_walk 138 = .ok (.bipush 8, 2) := by decide +kernel
theorem dX12_walk_140 : decode cX12_walk 140 = .ok (.iload_n 3, 1) := by decide +kernel
theorem dX12_walk_141 : decode cX12_walk 141 = .ok (.imul, 1) := by decide +kernel
theorem dX12_walk_142 : decode cX12_walk 142 = .ok (.iload_n 1, 1) := by decide +kernel
theorem dX12_walk_143 : decode cX12_walk 143 = .ok (.iadd, 1) := by decide +kernel
theorem dX12_walk_144 : decode cX12_walk 144 = .ok (.iconst 0, 1) := by decide +kernel
theorem dX12_walk_145 : decode cX12_walk 145 = .ok (.iastore, 1) := by decide +kernel
theorem dX12_walk_146 : decode cX12_walk 146 = .ok (.iload_n 3, 1) := by decide +kernel
theorem dX12_walk_147 : decode cX12_walk 147 = .ok (.iload_n 2, 1) := by decide +kernel
theorem dX12_walk_148 : decode cX12_walk 148 = .ok (.if_icmp .ne 7, 3) := by decide +kernel
theorem dX12_walk_151 : decode cX12_walk 151 = .ok (.iconst 0, 1) := by decide +kernel
theorem dX12_walk_152 : decode cX12_walk 152 = .ok (.goto 6, 3) := by decide +kernel
theorem dX12_walk_155 : decode cX12_walk 155 = .ok (.ldc_w 286, 3) := by decide +kernel
theorem dX12_walk_158 : decode cX12_walk 158 = .ok (.istore 4, 2) := by decide +kernel
theorem dX12_walk_160 : decode cX12_walk 160 = .ok (.iconst 0, 1) := by decide +kernel
theorem dX12_walk_161 : decode cX12_walk 161 = .ok (.istore 5, 2) := by decide +kernel
theorem dX12_walk_163 : decode cX12_walk 163 = .ok (.iload 5, 2) := by decide +kernel
theorem dX12_walk_165 : decode cX12_walk 165 = .ok (.sipush 256, 3) := by decide +kernel
theorem dX12_walk_168 : decode cX12_walk 168 = .ok (.if_icmp .ge 190, 3) := by decide +kernel
theorem dX12_walk_171 : decode cX12_walk 171 = .ok (.iconst 0, 1) := by decide +kernel
theorem dX12_walk_172 : decode cX12_walk 172 = .ok (.istore 6, 2) := by decide +kernel
theorem dX12_walk_174 : decode cX12_walk 174 = .ok (.iload 6, 2) := by decide +kernel
theorem dX12_walk_176 : decode cX12_walk 176 = .ok (.bipush 8, 2) := by decide +kernel
theorem dX12_walk_178 : decode cX12_walk 178 = .ok (.if_icmp .ge 174, 3) := by decide +kernel
theorem dX12_walk_181 : decode cX12_walk 181 = .ok (.iconst 0, 1) := by decide +kernel
theorem dX12_walk_182 : decode cX12_walk 182 = .ok (.istore 7, 2) := by decide +kernel
theorem dX12_walk_184 : decode cX12_walk 184 = .ok (.iload 7, 2) := by decide +kernel
theorem dX12_walk_186 : decode cX12_walk 186 = .ok (.bipush 8, 2) := by decide +kernel
theorem dX12_walk_188 : decode cX12_walk 188 = .ok (.if_icmp .ge 158, 3) := by decide +kernel
theorem dX12_walk_191 : decode cX12_walk 191 = .ok (.aload_n 0, 1) := by decide +kernel
theorem dX12_walk_192 : decode cX12_walk 192 = .ok (.getfield 148, 3) := by decide +kernel
theorem dX12_walk_195 : decode cX12_walk 195 = .ok (.bipush 8, 2) := by decide +kernel
theorem dX12_walk_197 : decode cX12_walk 197 = .ok (.iload 5, 2) := by decide +kernel
theorem dX12_walk_199 : decode cX12_walk 199 = .ok (.imul, 1) := by decide +kernel
theorem dX12_walk_200 : decode cX12_walk 200 = .ok (.iload 6, 2) := by decide +kernel
theorem dX12_walk_202 : decode cX12_walk 202 = .ok (.iadd, 1) := by decide +kernel
theorem dX12_walk_203 : decode cX12_walk 203 = .ok (.iaload, 1) := by decide +kernel
theorem dX12_walk_204 : decode cX12_walk 204 = .ok (.ldc_w 286, 3) := by decide +kernel
theorem dX12_walk_207 : decode cX12_walk 207 = .ok (.if_icmp .ge 139, 3) := by decide +kernel
theorem dX12_walk_210 : decode cX12_walk 210 = .ok (.iload 5, 2) := by decide +kernel
theorem dX12_walk_212 : decode cX12_walk 212 = .ok (.iconst 1, 1) := by decide +kernel
theorem dX12_walk_213 : decode cX12_walk 213 = .ok (.iload 7, 2) := by decide +kernel
theorem dX12_walk_215 : decode cX12_walk 215 = .ok (.ishl, 1) := by decide +kernel
theorem dX12_walk_216 : decode cX12_walk 216 = .ok (.ior, 1) := by decide +kernel
theorem dX12_walk_217 : decode cX12_walk 217 = .ok (.istore 8, 2) := by decide +kernel
theorem dX12_walk_219 : decode cX12_walk 219 = .ok (.iload_n 2, 1) := by decide +kernel
theorem dX12_walk_220 : decode cX12_walk 220 = .ok (.i2l, 1) := by decide +kernel
theorem dX12_walk_221 : decode cX12_walk 221 = .ok (.iload 7, 2) := by decide +kernel
theorem dX12_walk_223 : decode cX12_walk 223 = .ok (.invokestatic 211, 3) := by decide +kernel
theorem dX12_walk_226 : decode cX12_walk 226 = .ok (.ifCond .eq 114, 3) := by decide +kernel
theorem dX12_walk_229 : decode cX12_walk 229 = .ok (.iload 5, 2) := by decide +kernel
theorem dX12_walk_231 : decode cX12_walk 231 = .ok (.i2l, 1) := by decide +kernel
theorem dX12_walk_232 : decode cX12_walk 232 = .ok (.iload 7, 2) := by decide +kernel
theorem dX12_walk_234 : decode cX12_walk 234 = .ok (.invokestatic 211, 3) := by decide +kernel
theorem dX12_walk_237 : decode cX12_walk 237 = .ok (.ifCond .ne 103, 3) := by decide +kernel
theorem dX12_walk_240 : decode cX12_walk 240 = .ok (.aload_n 0, 1) := by decide +kernel
theorem dX12_walk_241 : decode cX12_walk 241 = .ok (.getfield 148, 3) := by decide +kernel
theorem dX12_walk_244 : decode cX12_walk 244 = .ok (.bipush 8, 2) := by decide +kernel
theorem dX12_walk_246 : decode cX12_walk 246 = .ok (.iload 5, 2) := by decide +kernel
theorem dX12_walk_248 : decode cX12_walk 248 = .ok (.imul, 1) := by decide +kernel
theorem dX12_walk_249 : decode cX12_walk 249 = .ok (.iload 6, 2) := by decide +kernel
theorem dX12_walk_251 : decode cX12_walk 251 = .ok (.iadd, 1) := by decide +kernel
theorem dX12_walk_252 : decode cX12_walk 252 = .ok (.iaload, 1) := by decide +kernel
theorem dX12_walk_253 : decode cX12_walk 253 = .ok (.aload_n 0, 1) := by decide +kernel
theorem dX12_walk_254 : decode cX12_walk 254 = .ok (.getfield 145, 3) := by decide +kernel
theorem dX12_walk_257 : decode cX12_walk 257 = .ok (.bipush 8, 2) := by decide +kernel
theorem dX12_walk_259 : decode cX12_walk 259 = .ok (.iload 6, 2) := by decide +kernel
theorem dX12_walk_261 : decode cX12_walk 261 = .ok (.imul, 1) := by decide +kernel
theorem dX12_walk_262 : decode cX12_walk 262 = .ok (.iload 7, 2) := by decide +kernel
theorem dX12_walk_264 : decode cX12_walk 264 = .ok (.iadd, 1) := by decide +kernel
theorem dX12_walk_265 : decode cX12_walk 265 = .ok (.iaload, 1) := by decide +kernel
theorem dX12_walk_266 : decode cX12_walk 266 = .ok (.iadd, 1) := by decide +kernel
theorem dX12_walk_267 : decode cX12_walk 267 = .ok (.istore 9, 2) := by decide +kernel
theorem dX12_walk_269 : decode cX12_walk 269 = .ok (.aload_n 0, 1) := by decide +kernel
theorem dX12_walk_270 : decode cX12_walk 270 = .ok (.getfield 148, 3) := by decide +kernel
theorem dX12_walk_273 : decode cX12_walk 273 = .ok (.bipush 8, 2) := by decide +kernel
theorem dX12_walk_275 : decode cX12_walk 275 = .ok (.iload 8, 2) := by decide +kernel
theorem dX12_walk_277 : decode cX12_walk 277 = .ok (.imul, 1) := by decide +kernel
theorem dX12_walk_278 : decode cX12_walk 278 = .ok (.iload 7, 2) := by decide +kernel
theorem dX12_walk_280 : decode cX12_walk 280 = .ok (.iadd, 1) := by decide +kernel
theorem dX12_walk_281 : decode cX12_walk 281 = .ok (.iload 9, 2) := by decide +kernel
theorem dX12_walk_283 : decode cX12_walk 283 = .ok (.aload_n 0, 1) := by decide +kernel
theorem dX12_walk_284 : decode cX12_walk 284 = .ok (.getfield 148, 3) := by decide +kernel
theorem dX12_walk_287 : decode cX12_walk 287 = .ok (.bipush 8, 2) := by decide +kernel
theorem dX12_walk_289 : decode cX12_walk 289 = .ok (.iload 8, 2) := by decide +kernel
theorem dX12_walk_291 : decode cX12_walk 291 = .ok (.imul, 1) := by decide +kernel
theorem dX12_walk_292 : decode cX12_walk 292 = .ok (.iload 7, 2) := by decide +kernel
theorem dX12_walk_294 : decode cX12_walk 294 = .ok (.iadd, 1) := by decide +kernel
theorem dX12_walk_295 : decode cX12_walk 295 = .ok (.iaload, 1) := by decide +kernel
theorem dX12_walk_296 : decode cX12_walk 296 = .ok (.if_icmp .ge 8, 3) := by decide +kernel
theorem dX12_walk_299 : decode cX12_walk 299 = .ok (.iload 9, 2) := by decide +kernel
theorem dX12_walk_301 : decode cX12_walk 301 = .ok (.goto 16, 3) := by decide +kernel
theorem dX12_walk_304 : decode cX12_walk 304 = .ok (.aload_n 0, 1) := by decide +kernel
theorem dX12_walk_305 : decode cX12_walk 305 = .ok (.getfield 148, 3) := by decide +kernel
theorem dX12_walk_308 : decode cX12_walk 308 = .ok (.bipush 8, 2) := by decide +kernel
theorem dX12_walk_310 : decode cX12_walk 310 = .ok (.iload 8, 2) := by decide +kernel
theorem dX12_walk_312 : decode cX12_walk 312 = .ok (.imul, 1) := by decide +kernel
theorem dX12_walk_313 : decode cX12_walk 313 = .ok (.iload 7, 2) := by decide +kernel
theorem dX12_walk_315 : decode cX12_walk 315 = .ok (.iadd, 1) := by decide +kernel
theorem dX12_walk_316 : decode cX12_walk 316 = .ok (.iaload, 1) := by decide +kernel
theorem dX12_walk_317 : decode cX12_walk 317 = .ok (.iastore, 1) := by decide +kernel
theorem dX12_walk_318 : decode cX12_walk 318 = .ok (.iload 8, 2) := by decide +kernel
theorem dX12_walk_320 : decode cX12_walk 320 = .ok (.iload_n 2, 1) := by decide +kernel
theorem dX12_walk_321 : decode cX12_walk 321 = .ok (.if_icmp .ne 15, 3) := by decide +kernel
theorem dX12_walk_324 : decode cX12_walk 324 = .ok (.iload 9, 2) := by decide +kernel
theorem dX12_walk_326 : decode cX12_walk 326 = .ok (.iload 4, 2) := by decide +kernel
theorem dX12_walk_328 : decode cX12_walk 328 = .ok (.if_icmp .ge 8, 3) := by decide +kernel
theorem dX12_walk_331 : decode cX12_walk 331 = .ok (.iload 9, 2) := by decide +kernel
theorem dX12_walk_333 : decode cX12_walk 333 = .ok (.goto 5, 3) := by decide +kernel
theorem dX12_walk_336 : decode cX12_walk 336 = .ok (.iload 4, 2) := by decide +kernel
theorem dX12_walk_338 : decode cX12_walk 338 = .ok (.istore 4, 2) := by decide +kernel
theorem dX12_walk_340 : decode cX12_walk 340 = .ok (.iinc 7 1, 3) := by decide +kernel
theorem dX12_walk_343 : decode cX12_walk 343 = .ok (.goto (-159), 3) := by decide +kernel
theorem dX12_walk_346 : decode cX12_walk 346 = .ok (.iinc 6 1, 3) := by decide +kernel
theorem dX12_walk_349 : decode cX12_walk 349 = .ok (.goto (-175), 3) := by decide +kernel
theorem dX12_walk_352 : decode cX12_walk 352 = .ok (.iinc 5 1, 3) := by decide +kernel
theorem dX12_walk_355 : decode cX12_walk 355 = .ok (.goto (-192), 3) := by decide +kernel
theorem dX12_walk_358 : decode cX12_walk 358 = .ok (.iload 4, 2) := by decide +kernel
theorem dX12_walk_360 : decode cX12_walk 360 = .ok (.ldc_w 286, 3) := by decide +kernel
theorem dX12_walk_363 : decode cX12_walk 363 = .ok (.if_icmp .lt 8, 3) := by decide +kernel
theorem dX12_walk_366 : decode cX12_walk 366 = .ok (.bipush (-2), 2) := by decide +kernel
theorem dX12_walk_368 : decode cX12_walk 368 = .ok (.goto 5, 3) := by decide +kernel
theorem dX12_walk_371 : decode cX12_walk 371 = .ok (.iload 4, 2) := by decide +kernel
theorem dX12_walk_373 : decode cX12_walk 373 = .ok (.ireturn, 1) := by decide +kernel
theorem dX12_seed_0 : decode cX12_seed 0 = .ok (.iload_n 1, 1) := by decide +kernel
theorem dX12_seed_1 : decode cX12_seed 1 = .ok (.ifCond .ge 5, 3) := by decide +kernel
theorem dX12_seed_4 : decode cX12_seed 4 = .ok (.iconst (-1), 1) := by decide +kernel
theorem dX12_seed_5 : decode cX12_seed 5 = .ok (.ireturn, 1) := by decide +kernel
theorem dX12_seed_6 : decode cX12_seed 6 = .ok (.aload_n 0, 1) := by decide +kernel
theorem dX12_seed_7 : decode cX12_seed 7 = .ok (.getfield 7, 3) := by decide +kernel
theorem dX12_seed_10 : decode cX12_seed 10 = .ok (.bipush 7, 2) := by decide +kernel
theorem dX12_seed_12 : decode cX12_seed 12 = .ok (.iaload, 1) := by decide +kernel
theorem dX12_seed_13 : decode cX12_seed 13 = .ok (.istore_n 2, 1) := by decide +kernel
theorem dX12_seed_14 : decode cX12_seed 14 = .ok (.aload_n 0, 1) := by decide +kernel
theorem dX12_seed_15 : decode cX12_seed 15 = .ok (.getfield 7, 3) := by decide +kernel
theorem dX12_seed_18 : decode cX12_seed 18 = .ok (.bipush 7, 2) := by decide +kernel
theorem dX12_seed_20 : decode cX12_seed 20 = .ok (.iload_n 1, 1) := by decide +kernel
theorem dX12_seed_21 : decode cX12_seed 21 = .ok (.iastore, 1) := by decide +kernel
theorem dX12_seed_22 : decode cX12_seed 22 = .ok (.iload_n 2, 1) := by decide +kernel
theorem dX12_seed_23 : decode cX12_seed 23 = .ok (.ireturn, 1) := by decide +kernel
theorem dX12_drawn_0 : decode cX12_drawn 0 = .ok (.aload_n 0, 1) := by decide +kernel
theorem dX12_drawn_1 : decode cX12_drawn 1 = .ok (.iload_n 1, 1) := by decide +kernel
theorem dX12_drawn_2 : decode cX12_drawn 2 = .ok (.invokevirtual 452, 3) := by decide +kernel
theorem dX12_drawn_5 : decode cX12_drawn 5 = .ok (.ifCond .ne 5, 3) := by decide +kernel
theorem dX12_drawn_8 : decode cX12_drawn 8 = .ok (.iconst (-1), 1) := by decide +kernel
theorem dX12_drawn_9 : decode cX12_drawn 9 = .ok (.ireturn, 1) := by decide +kernel
theorem dX12_drawn_10 : decode cX12_drawn 10 = .ok (.aload_n 0, 1) := by decide +kernel
theorem dX12_drawn_11 : decode cX12_drawn 11 = .ok (.iload_n 1, 1) := by decide +kernel
theorem dX12_drawn_12 : decode cX12_drawn 12 = .ok (.invokevirtual 455, 3) := by decide +kernel
theorem dX12_drawn_15 : decode cX12_drawn 15 = .ok (.istore_n 2, 1) := by decide +kernel
theorem dX12_drawn_16 : decode cX12_drawn 16 = .ok (.iload_n 2, 1) := by decide +kernel
theorem dX12_drawn_17 : decode cX12_drawn 17 = .ok (.ifCond .ne 6, 3) := by decide +kernel
theorem dX12_drawn_20 : decode cX12_drawn 20 = .ok (.bipush (-2), 2) := by decide +kernel
theorem dX12_drawn_22 : decode cX12_drawn 22 = .ok (.ireturn, 1) := by decide +kernel
theorem dX12_drawn_23 : decode cX12_drawn 23 = .ok (.aload_n 0, 1) := by decide +kernel
theorem dX12_drawn_24 : decode cX12_drawn 24 = .ok (.getfield 7, 3) := by decide +kernel
theorem dX12_drawn_27 : decode cX12_drawn 27 = .ok (.bipush 7, 2) := by decide +kernel
theorem dX12_drawn_29 : decode cX12_drawn 29 = .ok (.aload_n 0, 1) := by decide +kernel
theorem dX12_drawn_30 : decode cX12_drawn 30 = .ok (.getfield 7, 3) := by decide +kernel
theorem dX12_drawn_33 : decode cX12_drawn 33 = .ok (.bipush 7, 2) := by decide +kernel
theorem dX12_drawn_35 : decode cX12_drawn 35 = .ok (.iaload, 1) := by decide +kernel
theorem dX12_drawn_36 : decode cX12_drawn 36 = .ok (.i2l, 1) := by decide +kernel
theorem dX12_drawn_37 : decode cX12_drawn 37 = .ok (.ldc2_w 517, 3) := by decide +kernel
theorem dX12_drawn_40 : decode cX12_drawn 40 = .ok (.lmul, 1) := by decide +kernel
theorem dX12_drawn_41 : decode cX12_drawn 41 = .ok (.ldc2_w 519, 3) := by decide +kernel
theorem dX12_drawn_44 : decode cX12_drawn 44 = .ok (.ladd, 1) := by decide +kernel
theorem dX12_drawn_45 : decode cX12_drawn 45 = .ok (.ldc2_w 521, 3) := by decide +kernel
theorem dX12_drawn_48 : decode cX12_drawn 48 = .ok (.lrem, 1) := by decide +kernel
theorem dX12_drawn_49 : decode cX12_drawn 49 = .ok (.l2i, 1) := by decide +kernel
theorem dX12_drawn_50 : decode cX12_drawn 50 = .ok (.iastore, 1) := by decide +kernel
theorem dX12_drawn_51 : decode cX12_drawn 51 = .ok (.aload_n 0, 1) := by decide +kernel
theorem dX12_drawn_52 : decode cX12_drawn 52 = .ok (.getfield 7, 3) := by decide +kernel
theorem dX12_drawn_55 : decode cX12_drawn 55 = .ok (.bipush 7, 2) := by decide +kernel
theorem dX12_drawn_57 : decode cX12_drawn 57 = .ok (.iaload, 1) := by decide +kernel
theorem dX12_drawn_58 : decode cX12_drawn 58 = .ok (.ldc_w 523, 3) := by decide +kernel
theorem dX12_drawn_61 : decode cX12_drawn 61 = .ok (.idiv, 1) := by decide +kernel
theorem dX12_drawn_62 : decode cX12_drawn 62 = .ok (.iload_n 2, 1) := by decide +kernel
theorem dX12_drawn_63 : decode cX12_drawn 63 = .ok (.irem, 1) := by decide +kernel
theorem dX12_drawn_64 : decode cX12_drawn 64 = .ok (.ireturn, 1) := by decide +kernel
theorem dX12_allThings_0 : decode cX12_allThings 0 = .ok (.iconst 0, 1) := by decide +kernel
theorem dX12_allThings_1 : decode cX12_allThings 1 = .ok (.istore_n 1, 1) := by decide +kernel
theorem dX12_allThings_2 : decode cX12_allThings 2 = .ok (.iconst 0, 1) := by decide +kernel
theorem dX12_allThings_3 : decode cX12_allThings 3 = .ok (.istore_n 2, 1) := by decide +kernel
theorem dX12_allThings_4 : decode cX12_allThings 4 = .ok (.iload_n 2, 1) := by decide +kernel
theorem dX12_allThings_5 : decode cX12_allThings 5 = .ok (.aload_n 0, 1) := by decide +kernel
theorem dX12_allThings_6 : decode cX12_allThings 6 = .ok (.getfield 7, 3) := by decide +kernel
theorem dX12_allThings_9 : decode cX12_allThings 9 = .ok (.iconst 4, 1) := by decide +kernel
theorem dX12_allThings_10 : decode cX12_allThings 10 = .ok (.iaload, 1) := by decide +kernel
theorem dX12_allThings_11 : decode cX12_allThings 11 = .ok (.if_icmp .ge 18, 3) := by decide +kernel
theorem dX12_allThings_14 : decode cX12_allThings 14 = .ok (.iload_n 1, 1) := by decide +kernel
theorem dX12_allThings_15 : decode cX12_allThings 15 = .ok (.aload_n 0, 1) := by decide +kernel
theorem dX12_allThings_16 : decode cX12_allThings 16 = .ok (.getfield 28, 3) := by decide +kernel
theorem dX12_allThings_19 : decode cX12_allThings 19 = .ok (.iload_n 2, 1) := by decide +kernel
theorem dX12_allThings_20 : decode cX12_allThings 20 = .ok (.iaload, 1) := by decide +kernel
theorem dX12_allThings_21 : decode cX12_allThings 21 = .ok (.iadd, 1) := by decide +kernel
theorem dX12_allThings_22 : decode cX12_allThings 22 = .ok (.istore_n 1, 1) := by decide +kernel
theorem dX12_allThings_23 : decode cX12_allThings 23 = .ok (.iinc 2 1, 3) := by decide +kernel
theorem dX12_allThings_26 : decode cX12_allThings 26 = .ok (.goto (-22), 3) := by decide +kernel
theorem dX12_allThings_29 : decode cX12_allThings 29 = .ok (.iload_n 1, 1) := by decide +kernel
theorem dX12_allThings_30 : decode cX12_allThings 30 = .ok (.ireturn, 1) := by decide +kernel
theorem dX12_count_0 : decode cX12_count 0 = .ok (.iload_n 1, 1) := by decide +kernel
theorem dX12_count_1 : decode cX12_count 1 = .ok (.tableswitch 134 0 10 #[59, 66, 73, 80, 87, 94, 99, 106, 111, 121, 129], 59) := by decide +kernel
theorem dX12_count_60 : decode cX12_count 60 = .ok (.aload_n 0, 1) := by decide +kernel
theorem dX12_count_61 : decode cX12_count 61 = .ok (.getfield 7, 3) := by decide +kernel
theorem dX12_count_64 : decode cX12_count 64 = .ok (.iconst 0, 1) := by decide +kernel
theorem dX12_count_65 : decode cX12_count 65 = .ok (.iaload, 1) := by decide +kernel
theorem dX12_count_66 : decode cX12_count 66 = .ok (.ireturn, 1) := by decide +kernel
theorem dX12_count_67 : decode cX12_count 67 = .ok (.aload_n 0, 1) := by decide +kernel
theorem dX12_count_68 : decode cX12_count 68 = .ok (.getfield 7, 3) := by decide +kernel
theorem dX12_count_71 : decode cX12_count 71 = .ok (.iconst 1, 1) := by decide +kernel
theorem dX12_count_72 : decode cX12_count 72 = .ok (.iaload, 1) := by decide +kernel
theorem dX12_count_73 : decode cX12_count 73 = .ok (.ireturn, 1) := by decide +kernel
theorem dX12_count_74 : decode cX12_count 74 = .ok (.aload_n 0, 1) := by decide +kernel
theorem dX12_count_75 : decode cX12_count 75 = .ok (.getfield 7, 3) := by decide +kernel
theorem dX12_count_78 : decode cX12_count 78 = .ok (.iconst 2, 1) := by decide +kernel
theorem dX12_count_79 : decode cX12_count 79 = .ok (.iaload, 1) := by decide +kernel
theorem dX12_count_80 : decode cX12_count 80 = .ok (.ireturn, 1) := by decide +kernel
theorem dX12_count_81 : decode cX12_count 81 = .ok (.aload_n 0, 1) := by decide +kernel
theorem dX12_count_82 : decode cX12_count 82 = .ok (.getfield 7, 3) := by decide +kernel
theorem dX12_count_85 : decode cX12_count 85 = .ok (.iconst 3, 1) := by decide +kernel
theorem dX12_count_86 : decode cX12_count 86 = .ok (.iaload, 1) := by decide +kernel
theorem dX12_count_87 : decode cX12_count 87 = .ok (.ireturn, 1) := by decide +kernel
theorem dX12_count_88 : decode cX12_count 88 = .ok (.aload_n 0, 1) := by decide +kernel
theorem dX12_count_89 : decode cX12_count 89 = .ok (.getfield 7, 3) := by decide +kernel
theorem dX12_count_92 : decode cX12_count 92 = .ok (.iconst 4, 1) := by decide +kernel
theorem dX12_count_93 : decode cX12_count 93 = .ok (.iaload, 1) := by decide +kernel
theorem dX12_count_94 : decode cX12_count 94 = .ok (.ireturn, 1) := by decide +kernel
theorem dX12_count_95 : decode cX12_count 95 = .ok (.aload_n 0, 1) := by decide +kernel
theorem dX12_count_96 : decode cX12_count 96 = .ok (.invokevirtual 524, 3) := by decide +kernel
theorem dX12_count_99 : decode cX12_count 99 = .ok (.ireturn, 1) := by decide +kernel
theorem dX12_count_100 : decode cX12_count 100 = .ok (.aload_n 0, 1) := by decide +kernel
theorem dX12_count_101 : decode cX12_count 101 = .ok (.getfield 7, 3) := by decide +kernel
theorem dX12_count_104 : decode cX12_count 104 = .ok (.iconst 5, 1) := by decide +kernel
theorem dX12_count_105 : decode cX12_count 105 = .ok (.iaload, 1) := by decide +kernel
theorem dX12_count_106 : decode cX12_count 106 = .ok (.ireturn, 1) := by decide +kernel
theorem dX12_count_107 : decode cX12_count 107 = .ok (.aload_n 0, 1) := by decide +kernel
theorem dX12_count_108 : decode cX12_count 108 = .ok (.getfield 382, 3) := by decide +kernel
theorem dX12_count_111 : decode cX12_count 111 = .ok (.ireturn, 1) := by decide +kernel
theorem dX12_count_112 : decode cX12_count 112 = .ok (.aload_n 0, 1) := by decide +kernel
theorem dX12_count_113 : decode cX12_count 113 = .ok (.getfield 7, 3) := by decide +kernel
theorem dX12_count_116 : decode cX12_count 116 = .ok (.bipush 6, 2) := by decide +kernel
theorem dX12_count_118 : decode cX12_count 118 = .ok (.iaload, 1) := by decide +kernel
theorem dX12_count_119 : decode cX12_count 119 = .ok (.iconst 1, 1) := by decide +kernel
theorem dX12_count_120 : decode cX12_count 120 = .ok (.isub, 1) := by decide +kernel
theorem dX12_count_121 : decode cX12_count 121 = .ok (.ireturn, 1) := by decide +kernel
theorem dX12_count_122 : decode cX12_count 122 = .ok (.aload_n 0, 1) := by decide +kernel
theorem dX12_count_123 : decode cX12_count 123 = .ok (.getfield 7, 3) := by decide +kernel
theorem dX12_count_126 : decode cX12_count 126 = .ok (.bipush 7, 2) := by decide +kernel
theorem dX12_count_128 : decode cX12_count 128 = .ok (.iaload, 1) := by decide +kernel
theorem dX12_count_129 : decode cX12_count 129 = .ok (.ireturn, 1) := by decide +kernel
theorem dX12_count_130 : decode cX12_count 130 = .ok (.aload_n 0, 1) := by decide +kernel
theorem dX12_count_131 : decode cX12_count 131 = .ok (.getfield 215, 3) := by decide +kernel
theorem dX12_count_134 : decode cX12_count 134 = .ok (.ireturn, 1) := by decide +kernel
theorem dX12_count_135 : decode cX12_count 135 = .ok (.iconst (-1), 1) := by decide +kernel
theorem dX12_count_136 : decode cX12_count 136 = .ok (.ireturn, 1) := by decide +kernel
theorem dX12_carry_0 : decode cX12_carry 0 = .ok (.iconst 0, 1) := by decide +kernel
theorem dX12_carry_1 : decode cX12_carry 1 = .ok (.istore_n 2, 1) := by decide +kernel
theorem dX12_carry_2 : decode cX12_carry 2 = .ok (.iload_n 2, 1) := by decide +kernel
theorem dX12_carry_3 : decode cX12_carry 3 = .ok (.aload_n 1, 1) := by decide +kernel
theorem dX12_carry_4 : decode cX12_carry 4 = .ok (.arraylength, 1) := by decide +kernel
theorem dX12_carry_5 : decode cX12_carry 5 = .ok (.if_icmp .ge 53, 3) := by decide +kernel
theorem dX12_carry_8 : decode cX12_carry 8 = .ok (.aload_n 0, 1) := by decide +kernel
theorem dX12_carry_9 : decode cX12_carry 9 = .ok (.getfield 527, 3) := by decide +kernel
theorem dX12_carry_12 : decode cX12_carry 12 = .ok (.ifCond .eq 18, 3) := by decide +kernel
theorem dX12_carry_15 : decode cX12_carry 15 = .ok (.aload_n 1, 1) := by decide +kernel
theorem dX12_carry_16 : decode cX12_carry 16 = .ok (.iload_n 2, 1) := by decide +kernel
theorem dX12_carry_17 : decode cX12_carry 17 = .ok (.aload_n 0, 1) := by decide +kernel
theorem dX12_carry_18 : decode cX12_carry 18 = .ok (.getfield 151, 3) := by decide +kernel
theorem dX12_carry_21 : decode cX12_carry 21 = .ok (.aload_n 0, 1) := by decide +kernel
theorem dX12_carry_22 : decode cX12_carry 22 = .ok (.getfield 530, 3) := by decide +kernel
theorem dX12_carry_25 : decode cX12_carry 25 = .ok (.iaload, 1) := by decide +kernel
theorem dX12_carry_26 : decode cX12_carry 26 = .ok (.iastore, 1) := by decide +kernel
theorem dX12_carry_27 : decode cX12_carry 27 = .ok (.goto 15, 3) := by decide +kernel
theorem dX12_carry_30 : decode cX12_carry 30 = .ok (.aload_n 0, 1) := by decide +kernel
theorem dX12_carry_31 : decode cX12_carry 31 = .ok (.getfield 151, 3) := by decide +kernel
theorem dX12_carry_34 : decode cX12_carry 34 = .ok (.aload_n 0, 1) := by decide +kernel
theorem dX12_carry_35 : decode cX12_carry 35 = .ok (.getfield 530, 3) := by decide +kernel
theorem dX12_carry_38 : decode cX12_carry 38 = .ok (.aload_n 1, 1) := by decide +kernel
theorem dX12_carry_39 : decode cX12_carry 39 = .ok (.iload_n 2, 1) := by decide +kernel
theorem dX12_carry_40 : decode cX12_carry 40 = .ok (.iaload, 1) := by decide +kernel
theorem dX12_carry_41 : decode cX12_carry 41 = .ok (.iastore, 1) := by decide +kernel
theorem dX12_carry_42 : decode cX12_carry 42 = .ok (.aload_n 0, 1) := by decide +kernel
theorem dX12_carry_43 : decode cX12_carry 43 = .ok (.dup, 1) := by decide +kernel
theorem dX12_carry_44 : decode cX12_carry 44 = .ok (.getfield 530, 3) := by decide +kernel
theorem dX12_carry_47 : decode cX12_carry 47 = .ok (.iconst 1, 1) := by decide +kernel
theorem dX12_carry_48 : decode cX12_carry 48 = .ok (.iadd, 1) := by decide +kernel
theorem dX12_carry_49 : decode cX12_carry 49 = .ok (.putfield 530, 3) := by decide +kernel
theorem dX12_carry_52 : decode cX12_carry 52 = .ok (.iinc 2 1, 3) := by decide +kernel
theorem dX12_carry_55 : decode cX12_carry 55 = .ok (.goto (-53), 3) := by decide +kernel
theorem dX12_carry_58 : decode cX12_carry 58 = .ok (.return_, 1) := by decide +kernel
theorem dX12_carriesAll_0 : decode cX12_carriesAll 0 = .ok (.aload_n 0, 1) := by decide +kernel
theorem dX12_carriesAll_1 : decode cX12_carriesAll 1 = .ok (.sipush 130, 3) := by decide +kernel
theorem dX12_carriesAll_4 : decode cX12_carriesAll 4 = .ok (.iload_n 1, 1) := by decide +kernel
theorem dX12_carriesAll_5 : decode cX12_carriesAll 5 = .ok (.imul, 1) := by decide +kernel
theorem dX12_carriesAll_6 : decode cX12_carriesAll 6 = .ok (.putfield 530, 3) := by decide +kernel
theorem dX12_carriesAll_9 : decode cX12_carriesAll 9 = .ok (.aload_n 0, 1) := by decide +kernel
theorem dX12_carriesAll_10 : decode cX12_carriesAll 10 = .ok (.iload_n 2, 1) := by decide +kernel
theorem dX12_carriesAll_11 : decode cX12_carriesAll 11 = .ok (.putfield 527, 3) := by decide +kernel
theorem dX12_carriesAll_14 : decode cX12_carriesAll 14 = .ok (.aload_n 0, 1) := by decide +kernel
theorem dX12_carriesAll_15 : decode cX12_carriesAll 15 = .ok (.aload_n 0, 1) := by decide +kernel
theorem dX12_carriesAll_16 : decode cX12_carriesAll 16 = .ok (.getfield 7, 3) := by decide +kernel
theorem dX12_carriesAll_19 : decode cX12_carriesAll 19 = .ok (.invokevirtual 533, 3) := by decide +kernel
theorem dX12_carriesAll_22 : decode cX12_carriesAll 22 = .ok (.aload_n 0, 1) := by decide +kernel
theorem dX12_carriesAll_23 : decode cX12_carriesAll 23 = .ok (.aload_n 0, 1) := by decide +kernel
theorem dX12_carriesAll_24 : decode cX12_carriesAll 24 = .ok (.getfield 13, 3) := by decide +kernel
theorem dX12_carriesAll_27 : decode cX12_carriesAll 27 = .ok (.invokevirtual 533, 3) := by decide +kernel
theorem dX12_carriesAll_30 : decode cX12_carriesAll 30 = .ok (.aload_n 0, 1) := by decide +kernel
theorem dX12_carriesAll_31 : decode cX12_carriesAll 31 = .ok (.aload_n 0, 1) := by decide +kernel
theorem dX12_carriesAll_32 : decode cX12_carriesAll 32 = .ok (.getfield 16, 3) := by decide +kernel
theorem dX12_carriesAll_35 : decode cX12_carriesAll 35 = .ok (.invokevirtual 533, 3) := by decide +kernel
theorem dX12_carriesAll_38 : decode cX12_carriesAll 38 = .ok (.aload_n 0, 1) := by decide +kernel
theorem dX12_carriesAll_39 : decode cX12_carriesAll 39 = .ok (.aload_n 0, 1) := by decide +kernel
theorem dX12_carriesAll_40 : decode cX12_carriesAll 40 = .ok (.getfield 19, 3) := by decide +kernel
theorem dX12_carriesAll_43 : decode cX12_carriesAll 43 = .ok (.invokevirtual 533, 3) := by decide +kernel
theorem dX12_carriesAll_46 : decode cX12_carriesAll 46 = .ok (.aload_n 0, 1) := by decide +kernel
theorem dX12_carriesAll_47 : decode cX12_carriesAll 47 = .ok (.aload_n 0, 1) := by decide +kernel
theorem dX12_carriesAll_48 : decode cX12_carriesAll 48 = .ok (.getfield 22, 3) := by decide +kernel
theorem dX12_carriesAll_51 : decode cX12_carriesAll 51 = .ok (.invokevirtual 533, 3) := by decide +kernel
theorem dX12_carriesAll_54 : decode cX12_carriesAll 54 = .ok (.aload_n 0, 1) := by decide +kernel
theorem dX12_carriesAll_55 : decode cX12_carriesAll 55 = .ok (.aload_n 0, 1) := by decide +kernel
theorem dX12_carriesAll_56 : decode cX12_carriesAll 56 = .ok (.getfield 25, 3) := by decide +kernel
theorem dX12_carriesAll_59 : decode cX12_carriesAll 59 = .ok (.invokevirtual 533, 3) := by decide +kernel
theorem dX12_carriesAll_62 : decode cX12_carriesAll 62 = .ok (.aload_n 0, 1) := by decide +kernel
theorem dX12_carriesAll_63 : decode cX12_carriesAll 63 = .ok (.aload_n 0, 1) := by decide +kernel
theorem dX12_carriesAll_64 : decode cX12_carriesAll 64 = .ok (.getfield 28, 3) := by decide +kernel
theorem dX12_carriesAll_67 : decode cX12_carriesAll 67 = .ok (.invokevirtual 533, 3) := by decide +kernel
theorem dX12_carriesAll_70 : decode cX12_carriesAll 70 = .ok (.aload_n 0, 1) := by decide +kernel
theorem dX12_carriesAll_71 : decode cX12_carriesAll 71 = .ok (.aload_n 0, 1) := by decide +kernel
theorem dX12_carriesAll_72 : decode cX12_carriesAll 72 = .ok (.getfield 31, 3) := by decide +kernel
theorem dX12_carriesAll_75 : decode cX12_carriesAll 75 = .ok (.invokevirtual 533, 3) := by decide +kernel
theorem dX12_carriesAll_78 : decode cX12_carriesAll 78 = .ok (.aload_n 0, 1) := by decide +kernel
theorem dX12_carriesAll_79 : decode cX12_carriesAll 79 = .ok (.aload_n 0, 1) := by decide +kernel
theorem dX12_carriesAll_80 : decode cX12_carriesAll 80 = .ok (.getfield 34, 3) := by decide +kernel
theorem dX12_carriesAll_83 : decode cX12_carriesAll 83 = .ok (.invokevirtual 533, 3) := by decide +kernel
theorem dX12_carriesAll_86 : decode cX12_carriesAll 86 = .ok (.aload_n 0, 1) := by decide +kernel
theorem dX12_carriesAll_87 : decode cX12_carriesAll 87 = .ok (.aload_n 0, 1) := by decide +kernel
theorem dX12_carriesAll_88 : decode cX12_carriesAll 88 = .ok (.getfield 37, 3) := by decide +kernel
theorem dX12_carriesAll_91 : decode cX12_carriesAll 91 = .ok (.invokevirtual 533, 3) := by decide +kernel
theorem dX12_carriesAll_94 : decode cX12_carriesAll 94 = .ok (.aload_n 0, 1) := by decide +kernel
theorem dX12_carriesAll_95 : decode cX12_carriesAll 95 = .ok (.aload_n 0, 1) := by decide +kernel
theorem dX12_carriesAll_96 : decode cX12_carriesAll 96 = .ok (.getfield 40, 3) := by decide +kernel
theorem dX12_carriesAll_99 : decode cX12_carriesAll 99 = .ok (.invokevirtual 533, 3) := by decide +kernel
theorem dX12_carriesAll_102 : decode cX12_carriesAll 102 = .ok (.aload_n 0, 1) := by decide +kernel
theorem dX12_carriesAll_103 : decode cX12_carriesAll 103 = .ok (.aload_n 0, 1) := by decide +kernel
theorem dX12_carriesAll_104 : decode cX12_carriesAll 104 = .ok (.getfield 43, 3) := by decide +kernel
theorem dX12_carriesAll_107 : decode cX12_carriesAll 107 = .ok (.invokevirtual 533, 3) := by decide +kernel
theorem dX12_carriesAll_110 : decode cX12_carriesAll 110 = .ok (.return_, 1) := by decide +kernel
theorem dX12_image_0 : decode cX12_image 0 = .ok (.iload_n 1, 1) := by decide +kernel
theorem dX12_image_1 : decode cX12_image 1 = .ok (.i2l, 1) := by decide +kernel
theorem dX12_image_2 : decode cX12_image 2 = .ok (.lconst 0, 1) := by decide +kernel
theorem dX12_image_3 : decode cX12_image 3 = .ok (.ldc2_w 422, 3) := by decide +kernel
theorem dX12_image_6 : decode cX12_image 6 = .ok (.invokestatic 161, 3) := by decide +kernel
theorem dX12_image_9 : decode cX12_image 9 = .ok (.ifCond .ne 5, 3) := by decide +kernel
theorem dX12_image_12 : decode cX12_image 12 = .ok (.iconst (-1), 1) := by decide +kernel
theorem dX12_image_13 : decode cX12_image 13 = .ok (.ireturn, 1) := by decide +kernel
theorem dX12_image_14 : decode cX12_image 14 = .ok (.aload_n 0, 1) := by decide +kernel
theorem dX12_image_15 : decode cX12_image 15 = .ok (.getfield 154, 3) := by decide +kernel
theorem dX12_image_18 : decode cX12_image 18 = .ok (.iload_n 1, 1) := by decide +kernel
theorem dX12_image_19 : decode cX12_image 19 = .ok (.iconst 1, 1) := by decide +kernel
theorem dX12_image_20 : decode cX12_image 20 = .ok (.bastore, 1) := by decide +kernel
theorem dX12_image_21 : decode cX12_image 21 = .ok (.aload_n 0, 1) := by decide +kernel
theorem dX12_image_22 : decode cX12_image 22 = .ok (.iload_n 1, 1) := by decide +kernel
theorem dX12_image_23 : decode cX12_image 23 = .ok (.iconst 0, 1) := by decide +kernel
theorem dX12_image_24 : decode cX12_image 24 = .ok (.invokevirtual 537, 3) := by decide +kernel
theorem dX12_image_27 : decode cX12_image 27 = .ok (.aload_n 0, 1) := by decide +kernel
theorem dX12_image_28 : decode cX12_image 28 = .ok (.getfield 7, 3) := by decide +kernel
theorem dX12_image_31 : decode cX12_image 31 = .ok (.iconst 5, 1) := by decide +kernel
theorem dX12_image_32 : decode cX12_image 32 = .ok (.iaload, 1) := by decide +kernel
theorem dX12_image_33 : decode cX12_image 33 = .ok (.ireturn, 1) := by decide +kernel
theorem dX12_back_0 : decode cX12_back 0 = .ok (.iload_n 1, 1) := by decide +kernel
theorem dX12_back_1 : decode cX12_back 1 = .ok (.i2l, 1) := by decide +kernel
theorem dX12_back_2 : decode cX12_back 2 = .ok (.lconst 0, 1) := by decide +kernel
theorem dX12_back_3 : decode cX12_back 3 = .ok (.ldc2_w 422, 3) := by decide +kernel
theorem dX12_back_6 : decode cX12_back 6 = .ok (.invokestatic 161, 3) := by decide +kernel
theorem dX12_back_9 : decode cX12_back 9 = .ok (.ifCond .eq 12, 3) := by decide +kernel
theorem dX12_back_12 : decode cX12_back 12 = .ok (.aload_n 0, 1) := by decide +kernel
theorem dX12_back_13 : decode cX12_back 13 = .ok (.getfield 154, 3) := by decide +kernel
theorem dX12_back_16 : decode cX12_back 16 = .ok (.iload_n 1, 1) := by decide +kernel
theorem dX12_back_17 : decode cX12_back 17 = .ok (.baload, 1) := by decide +kernel
theorem dX12_back_18 : decode cX12_back 18 = .ok (.ifCond .ne 5, 3) := by decide +kernel
theorem dX12_back_21 : decode cX12_back 21 = .ok (.iconst (-1), 1) := by decide +kernel
theorem dX12_back_22 : decode cX12_back 22 = .ok (.ireturn, 1) := by decide +kernel
theorem dX12_back_23 : decode cX12_back 23 = .ok (.aload_n 0, 1) := by decide +kernel
theorem dX12_back_24 : decode cX12_back 24 = .ok (.iload_n 1, 1) := by decide +kernel
theorem dX12_back_25 : decode cX12_back 25 = .ok (.iconst 1, 1) := by decide +kernel
theorem dX12_back_26 : decode cX12_back 26 = .ok (.invokevirtual 537, 3) := by decide +kernel
theorem dX12_back_29 : decode cX12_back 29 = .ok (.aload_n 0, 1) := by decide +kernel
theorem dX12_back_30 : decode cX12_back 30 = .ok (.getfield 7, 3) := by decide +kernel
theorem dX12_back_33 : decode cX12_back 33 = .ok (.iconst 5, 1) := by decide +kernel
theorem dX12_back_34 : decode cX12_back 34 = .ok (.iaload, 1) := by decide +kernel
theorem dX12_back_35 : decode cX12_back 35 = .ok (.ireturn, 1) := by decide +kernel
theorem dJ6_bitCount_0f7a4_0 : decode cJ6_bitCount_0f7a4 0 = .ok (.iload_n 0, 1) := by decide +kernel
theorem dJ6_bitCount_0f7a4_1 : decode cJ6_bitCount_0f7a4 1 = .ok (.iload_n 0, 1) := by decide +kernel
theorem dJ6_bitCount_0f7a4_2 : decode cJ6_bitCount_0f7a4 2 = .ok (.iconst 1, 1) := by decide +kernel
theorem dJ6_bitCount_0f7a4_3 : decode cJ6_bitCount_0f7a4 3 = .ok (.iushr, 1) := by decide +kernel
theorem dJ6_bitCount_0f7a4_4 : decode cJ6_bitCount_0f7a4 4 = .ok (.ldc_w 265, 3) := by decide +kernel
theorem dJ6_bitCount_0f7a4_7 : decode cJ6_bitCount_0f7a4 7 = .ok (.iand, 1) := by decide +kernel
theorem dJ6_bitCount_0f7a4_8 : decode cJ6_bitCount_0f7a4 8 = .ok (.isub, 1) := by decide +kernel
theorem dJ6_bitCount_0f7a4_9 : decode cJ6_bitCount_0f7a4 9 = .ok (.istore_n 0, 1) := by decide +kernel
theorem dJ6_bitCount_0f7a4_10 : decode cJ6_bitCount_0f7a4 10 = .ok (.iload_n 0, 1) := by decide +kernel
theorem dJ6_bitCount_0f7a4_11 : decode cJ6_bitCount_0f7a4 11 = .ok (.ldc_w 266, 3) := by decide +kernel
theorem dJ6_bitCount_0f7a4_14 : decode cJ6_bitCount_0f7a4 14 = .ok (.iand, 1) := by decide +kernel
theorem dJ6_bitCount_0f7a4_15 : decode cJ6_bitCount_0f7a4 15 = .ok (.iload_n 0, 1) := by decide +kernel
theorem dJ6_bitCount_0f7a4_16 : decode cJ6_bitCount_0f7a4 16 = .ok (.iconst 2, 1) := by decide +kernel
theorem dJ6_bitCount_0f7a4_17 : decode cJ6_bitCount_0f7a4 17 = .ok (.iushr, 1) := by decide +kernel
theorem dJ6_bitCount_0f7a4_18 : decode cJ6_bitCount_0f7a4 18 = .ok (.ldc_w 266, 3) := by decide +kernel
theorem dJ6_bitCount_0f7a4_21 : decode cJ6_bitCount_0f7a4 21 = .ok (.iand, 1) := by decide +kernel
theorem dJ6_bitCount_0f7a4_22 : decode cJ6_bitCount_0f7a4 22 = .ok (.iadd, 1) := by decide +kernel
theorem dJ6_bitCount_0f7a4_23 : decode cJ6_bitCount_0f7a4 23 = .ok (.istore_n 0, 1) := by decide +kernel
theorem dJ6_bitCount_0f7a4_24 : decode cJ6_bitCount_0f7a4 24 = .ok (.iload_n 0, 1) := by decide +kernel
theorem dJ6_bitCount_0f7a4_25 : decode cJ6_bitCount_0f7a4 25 = .ok (.iload_n 0, 1) := by decide +kernel
theorem dJ6_bitCount_0f7a4_26 : decode cJ6_bitCount_0f7a4 26 = .ok (.iconst 4, 1) := by decide +kernel
theorem dJ6_bitCount_0f7a4_27 : decode cJ6_bitCount_0f7a4 27 = .ok (.iushr, 1) := by decide +kernel
theorem dJ6_bitCount_0f7a4_28 : decode cJ6_bitCount_0f7a4 28 = .ok (.iadd, 1) := by decide +kernel
theorem dJ6_bitCount_0f7a4_29 : decode cJ6_bitCount_0f7a4 29 = .ok (.ldc_w 267, 3) := by decide +kernel
theorem dJ6_bitCount_0f7a4_32 : decode cJ6_bitCount_0f7a4 32 = .ok (.iand, 1) := by decide +kernel
theorem dJ6_bitCount_0f7a4_33 : decode cJ6_bitCount_0f7a4 33 = .ok (.istore_n 0, 1) := by decide +kernel
theorem dJ6_bitCount_0f7a4_34 : decode cJ6_bitCount_0f7a4 34 = .ok (.iload_n 0, 1) := by decide +kernel
theorem dJ6_bitCount_0f7a4_35 : decode cJ6_bitCount_0f7a4 35 = .ok (.iload_n 0, 1) := by decide +kernel
theorem dJ6_bitCount_0f7a4_36 : decode cJ6_bitCount_0f7a4 36 = .ok (.bipush 8, 2) := by decide +kernel
theorem dJ6_bitCount_0f7a4_38 : decode cJ6_bitCount_0f7a4 38 = .ok (.iushr, 1) := by decide +kernel
theorem dJ6_bitCount_0f7a4_39 : decode cJ6_bitCount_0f7a4 39 = .ok (.iadd, 1) := by decide +kernel
theorem dJ6_bitCount_0f7a4_40 : decode cJ6_bitCount_0f7a4 40 = .ok (.istore_n 0, 1) := by decide +kernel
theorem dJ6_bitCount_0f7a4_41 : decode cJ6_bitCount_0f7a4 41 = .ok (.iload_n 0, 1) := by decide +kernel
theorem dJ6_bitCount_0f7a4_42 : decode cJ6_bitCount_0f7a4 42 = .ok (.iload_n 0, 1) := by decide +kernel
theorem dJ6_bitCount_0f7a4_43 : decode cJ6_bitCount_0f7a4 43 = .ok (.bipush 16, 2) := by decide +kernel
theorem dJ6_bitCount_0f7a4_45 : decode cJ6_bitCount_0f7a4 45 = .ok (.iushr, 1) := by decide +kernel
theorem dJ6_bitCount_0f7a4_46 : decode cJ6_bitCount_0f7a4 46 = .ok (.iadd, 1) := by decide +kernel
theorem dJ6_bitCount_0f7a4_47 : decode cJ6_bitCount_0f7a4 47 = .ok (.istore_n 0, 1) := by decide +kernel
theorem dJ6_bitCount_0f7a4_48 : decode cJ6_bitCount_0f7a4 48 = .ok (.iload_n 0, 1) := by decide +kernel
theorem dJ6_bitCount_0f7a4_49 : decode cJ6_bitCount_0f7a4 49 = .ok (.bipush 63, 2) := by decide +kernel
theorem dJ6_bitCount_0f7a4_51 : decode cJ6_bitCount_0f7a4 51 = .ok (.iand, 1) := by decide +kernel
theorem dJ6_bitCount_0f7a4_52 : decode cJ6_bitCount_0f7a4 52 = .ok (.ireturn, 1) := by decide +kernel
theorem dJ13_bitCount_95d88_0 : decode cJ13_bitCount_95d88 0 = .ok (.lload_n 0, 1) := by decide +kernel
theorem dJ13_bitCount_95d88_1 : decode cJ13_bitCount_95d88 1 = .ok (.lload_n 0, 1) := by decide +kernel
theorem dJ13_bitCount_95d88_2 : decode cJ13_bitCount_95d88 2 = .ok (.iconst 1, 1) := by decide +kernel
theorem dJ13_bitCount_95d88_3 : decode cJ13_bitCount_95d88 3 = .ok (.lushr, 1) := by decide +kernel
theorem dJ13_bitCount_95d88_4 : decode cJ13_bitCount_95d88 4 = .ok (.ldc2_w 314, 3) := by decide +kernel
theorem dJ13_bitCount_95d88_7 : decode cJ13_bitCount_95d88 7 = .ok (.land, 1) := by decide +kernel
theorem dJ13_bitCount_95d88_8 : decode cJ13_bitCount_95d88 8 = .ok (.lsub, 1) := by decide +kernel
theorem dJ13_bitCount_95d88_9 : decode cJ13_bitCount_95d88 9 = .ok (.lstore_n 0, 1) := by decide +kernel
theorem dJ13_bitCount_95d88_10 : decode cJ13_bitCount_95d88 10 = .ok (.lload_n 0, 1) := by decide +kernel
theorem dJ13_bitCount_95d88_11 : decode cJ13_bitCount_95d88 11 = .ok (.ldc2_w 316, 3) := by decide +kernel
theorem dJ13_bitCount_95d88_14 : decode cJ13_bitCount_95d88 14 = .ok (.land, 1) := by decide +kernel
theorem dJ13_bitCount_95d88_15 : decode cJ13_bitCount_95d88 15 = .ok (.lload_n 0, 1) := by decide +kernel
theorem dJ13_bitCount_95d88_16 : decode cJ13_bitCount_95d88 16 = .ok (.iconst 2, 1) := by decide +kernel
theorem dJ13_bitCount_95d88_17 : decode cJ13_bitCount_95d88 17 = .ok (.lushr, 1) := by decide +kernel
theorem dJ13_bitCount_95d88_18 : decode cJ13_bitCount_95d88 18 = .ok (.ldc2_w 316, 3) := by decide +kernel
theorem dJ13_bitCount_95d88_21 : decode cJ13_bitCount_95d88 21 = .ok (.land, 1) := by decide +kernel
theorem dJ13_bitCount_95d88_22 : decode cJ13_bitCount_95d88 22 = .ok (.ladd, 1) := by decide +kernel
theorem dJ13_bitCount_95d88_23 : decode cJ13_bitCount_95d88 23 = .ok (.lstore_n 0, 1) := by decide +kernel
theorem dJ13_bitCount_95d88_24 : decode cJ13_bitCount_95d88 24 = .ok (.lload_n 0, 1) := by decide +kernel
theorem dJ13_bitCount_95d88_25 : decode cJ13_bitCount_95d88 25 = .ok (.lload_n 0, 1) := by decide +kernel
theorem dJ13_bitCount_95d88_26 : decode cJ13_bitCount_95d88 26 = .ok (.iconst 4, 1) := by decide +kernel
theorem dJ13_bitCount_95d88_27 : decode cJ13_bitCount_95d88 27 = .ok (.lushr, 1) := by decide +kernel
theorem dJ13_bitCount_95d88_28 : decode cJ13_bitCount_95d88 28 = .ok (.ladd, 1) := by decide +kernel
theorem dJ13_bitCount_95d88_29 : decode cJ13_bitCount_95d88 29 = .ok (.ldc2_w 318, 3) := by decide +kernel
theorem dJ13_bitCount_95d88_32 : decode cJ13_bitCount_95d88 32 = .ok (.land, 1) := by decide +kernel
theorem dJ13_bitCount_95d88_33 : decode cJ13_bitCount_95d88 33 = .ok (.lstore_n 0, 1) := by decide +kernel
theorem dJ13_bitCount_95d88_34 : decode cJ13_bitCount_95d88 34 = .ok (.lload_n 0, 1) := by decide +kernel
theorem dJ13_bitCount_95d88_35 : decode cJ13_bitCount_95d88 35 = .ok (.lload_n 0, 1) := by decide +kernel
theorem dJ13_bitCount_95d88_36 : decode cJ13_bitCount_95d88 36 = .ok (.bipush 8, 2) := by decide +kernel
theorem dJ13_bitCount_95d88_38 : decode cJ13_bitCount_95d88 38 = .ok (.lushr, 1) := by decide +kernel
theorem dJ13_bitCount_95d88_39 : decode cJ13_bitCount_95d88 39 = .ok (.ladd, 1) := by decide +kernel
theorem dJ13_bitCount_95d88_40 : decode cJ13_bitCount_95d88 40 = .ok (.lstore_n 0, 1) := by decide +kernel
theorem dJ13_bitCount_95d88_41 : decode cJ13_bitCount_95d88 41 = .ok (.lload_n 0, 1) := by decide +kernel
theorem dJ13_bitCount_95d88_42 : decode cJ13_bitCount_95d88 42 = .ok (.lload_n 0, 1) := by decide +kernel
theorem dJ13_bitCount_95d88_43 : decode cJ13_bitCount_95d88 43 = .ok (.bipush 16, 2) := by decide +kernel
theorem dJ13_bitCount_95d88_45 : decode cJ13_bitCount_95d88 45 = .ok (.lushr, 1) := by decide +kernel
theorem dJ13_bitCount_95d88_46 : decode cJ13_bitCount_95d88 46 = .ok (.ladd, 1) := by decide +kernel
theorem dJ13_bitCount_95d88_47 : decode cJ13_bitCount_95d88 47 = .ok (.lstore_n 0, 1) := by decide +kernel
theorem dJ13_bitCount_95d88_48 : decode cJ13_bitCount_95d88 48 = .ok (.lload_n 0, 1) := by decide +kernel
theorem dJ13_bitCount_95d88_49 : decode cJ13_bitCount_95d88 49 = .ok (.lload_n 0, 1) := by decide +kernel
theorem dJ13_bitCount_95d88_50 : decode cJ13_bitCount_95d88 50 = .ok (.bipush 32, 2) := by decide +kernel
theorem dJ13_bitCount_95d88_52 : decode cJ13_bitCount_95d88 52 = .ok (.lushr, 1) := by decide +kernel
theorem dJ13_bitCount_95d88_53 : decode cJ13_bitCount_95d88 53 = .ok (.ladd, 1) := by decide +kernel
theorem dJ13_bitCount_95d88_54 : decode cJ13_bitCount_95d88 54 = .ok (.lstore_n 0, 1) := by decide +kernel
theorem dJ13_bitCount_95d88_55 : decode cJ13_bitCount_95d88 55 = .ok (.lload_n 0, 1) := by decide +kernel
theorem dJ13_bitCount_95d88_56 : decode cJ13_bitCount_95d88 56 = .ok (.l2i, 1) := by decide +kernel
theorem dJ13_bitCount_95d88_57 : decode cJ13_bitCount_95d88 57 = .ok (.bipush 127, 2) := by decide +kernel
theorem dJ13_bitCount_95d88_59 : decode cJ13_bitCount_95d88 59 = .ok (.iand, 1) := by decide +kernel
theorem dJ13_bitCount_95d88_60 : decode cJ13_bitCount_95d88 60 = .ok (.ireturn, 1) := by decide +kernel
theorem dJ9_floorDiv_7cf53_0 : decode cJ9_floorDiv_7cf53 0 = .ok (.iload_n 0, 1) := by decide +kernel
theorem dJ9_floorDiv_7cf53_1 : decode cJ9_floorDiv_7cf53 1 = .ok (.iload_n 1, 1) := by decide +kernel
theorem dJ9_floorDiv_7cf53_2 : decode cJ9_floorDiv_7cf53 2 = .ok (.idiv, 1) := by decide +kernel
theorem dJ9_floorDiv_7cf53_3 : decode cJ9_floorDiv_7cf53 3 = .ok (.istore_n 2, 1) := by decide +kernel
theorem dJ9_floorDiv_7cf53_4 : decode cJ9_floorDiv_7cf53 4 = .ok (.iload_n 0, 1) := by decide +kernel
theorem dJ9_floorDiv_7cf53_5 : decode cJ9_floorDiv_7cf53 5 = .ok (.iload_n 1, 1) := by decide +kernel
theorem dJ9_floorDiv_7cf53_6 : decode cJ9_floorDiv_7cf53 6 = .ok (.ixor, 1) := by decide +kernel
theorem dJ9_floorDiv_7cf53_7 : decode cJ9_floorDiv_7cf53 7 = .ok (.ifCond .ge 14, 3) := by decide +kernel
theorem dJ9_floorDiv_7cf53_10 : decode cJ9_floorDiv_7cf53 10 = .ok (.iload_n 2, 1) := by decide +kernel
theorem dJ9_floorDiv_7cf53_11 : decode cJ9_floorDiv_7cf53 11 = .ok (.iload_n 1, 1) := by decide +kernel
theorem dJ9_floorDiv_7cf53_12 : decode cJ9_floorDiv_7cf53 12 = .ok (.imul, 1) := by decide +kernel
theorem dJ9_floorDiv_7cf53_13 : decode cJ9_floorDiv_7cf53 13 = .ok (.iload_n 0, 1) := by decide +kernel
theorem dJ9_floorDiv_7cf53_14 : decode cJ9_floorDiv_7cf53 14 = .ok (.if_icmp .eq 7, 3) := by decide +kernel
theorem dJ9_floorDiv_7cf53_17 : decode cJ9_floorDiv_7cf53 17 = .ok (.iload_n 2, 1) := by decide +kernel
theorem dJ9_floorDiv_7cf53_18 : decode cJ9_floorDiv_7cf53 18 = .ok (.iconst 1, 1) := by decide +kernel
theorem dJ9_floorDiv_7cf53_19 : decode cJ9_floorDiv_7cf53 19 = .ok (.isub, 1) := by decide +kernel
theorem dJ9_floorDiv_7cf53_20 : decode cJ9_floorDiv_7cf53 20 = .ok (.ireturn, 1) := by decide +kernel
theorem dJ9_floorDiv_7cf53_21 : decode cJ9_floorDiv_7cf53 21 = .ok (.iload_n 2, 1) := by decide +kernel
theorem dJ9_floorDiv_7cf53_22 : decode cJ9_floorDiv_7cf53 22 = .ok (.ireturn, 1) := by decide +kernel
theorem dJ9_abs_0f7a4_0 : decode cJ9_abs_0f7a4 0 = .ok (.iload_n 0, 1) := by decide +kernel
theorem dJ9_abs_0f7a4_1 : decode cJ9_abs_0f7a4 1 = .ok (.ifCond .ge 8, 3) := by decide +kernel
theorem dJ9_abs_0f7a4_4 : decode cJ9_abs_0f7a4 4 = .ok (.iload_n 0, 1) := by decide +kernel
theorem dJ9_abs_0f7a4_5 : decode cJ9_abs_0f7a4 5 = .ok (.ineg, 1) := by decide +kernel
theorem dJ9_abs_0f7a4_6 : decode cJ9_abs_0f7a4 6 = .ok (.goto 4, 3) := by decide +kernel
theorem dJ9_abs_0f7a4_9 : decode cJ9_abs_0f7a4 9 = .ok (.iload_n 0, 1) := by decide +kernel
theorem dJ9_abs_0f7a4_10 : decode cJ9_abs_0f7a4 10 = .ok (.ireturn, 1) := by decide +kernel
theorem dJ9_max_7cf53_0 : decode cJ9_max_7cf53 0 = .ok (.iload_n 0, 1) := by decide +kernel
theorem dJ9_max_7cf53_1 : decode cJ9_max_7cf53 1 = .ok (.iload_n 1, 1) := by decide +kernel
theorem dJ9_max_7cf53_2 : decode cJ9_max_7cf53 2 = .ok (.if_icmp .lt 7, 3) := by decide +kernel
theorem dJ9_max_7cf53_5 : decode cJ9_max_7cf53 5 = .ok (.iload_n 0, 1) := by decide +kernel
theorem dJ9_max_7cf53_6 : decode cJ9_max_7cf53 6 = .ok (.goto 4, 3) := by decide +kernel
theorem dJ9_max_7cf53_9 : decode cJ9_max_7cf53 9 = .ok (.iload_n 1, 1) := by decide +kernel
theorem dJ9_max_7cf53_10 : decode cJ9_max_7cf53 10 = .ok (.ireturn, 1) := by decide +kernel
theorem dJ9_min_7cf53_0 : decode cJ9_min_7cf53 0 = .ok (.iload_n 0, 1) := by decide +kernel
theorem dJ9_min_7cf53_1 : decode cJ9_min_7cf53 1 = .ok (.iload_n 1, 1) := by decide +kernel
theorem dJ9_min_7cf53_2 : decode cJ9_min_7cf53 2 = .ok (.if_icmp .gt 7, 3) := by decide +kernel
theorem dJ9_min_7cf53_5 : decode cJ9_min_7cf53 5 = .ok (.iload_n 0, 1) := by decide +kernel
theorem dJ9_min_7cf53_6 : decode cJ9_min_7cf53 6 = .ok (.goto 4, 3) := by decide +kernel
theorem dJ9_min_7cf53_9 : decode cJ9_min_7cf53 9 = .ok (.iload_n 1, 1) := by decide +kernel
theorem dJ9_min_7cf53_10 : decode cJ9_min_7cf53 10 = .ok (.ireturn, 1) := by decide +kernel
theorem dJ0_length_8abf5_0 : decode cJ0_length_8abf5 0 = .ok (.aload_n 0, 1) := by decide +kernel
theorem dJ0_length_8abf5_1 : decode cJ0_length_8abf5 1 = .ok (.getfield 9, 3) := by decide +kernel
theorem dJ0_length_8abf5_4 : decode cJ0_length_8abf5 4 = .ok (.arraylength, 1) := by decide +kernel
theorem dJ0_length_8abf5_5 : decode cJ0_length_8abf5 5 = .ok (.aload_n 0, 1) := by decide +kernel
theorem dJ0_length_8abf5_6 : decode cJ0_length_8abf5 6 = .ok (.invokevirtual 335, 3) := by decide +kernel
theorem dJ0_length_8abf5_9 : decode cJ0_length_8abf5 9 = .ok (.ishr, 1) := by decide +kernel
theorem dJ0_length_8abf5_10 : decode cJ0_length_8abf5 10 = .ok (.ireturn, 1) := by decide +kernel
theorem dJ0_charAt_5068e_0 : decode cJ0_charAt_5068e 0 = .ok (.aload_n 0, 1) := by decide +kernel
theorem dJ0_charAt_5068e_1 : decode cJ0_charAt_5068e 1 = .ok (.invokevirtual 492, 3) := by decide +kernel
theorem dJ0_charAt_5068e_4 : decode cJ0_charAt_5068e 4 = .ok (.ifCond .eq 12, 3) := by decide +kernel
theorem dJ0_charAt_5068e_7 : decode cJ0_charAt_5068e 7 = .ok (.aload_n 0, 1) := by decide +kernel
theorem dJ0_charAt_5068e_8 : decode cJ0_charAt_5068e 8 = .ok (.getfield 9, 3) := by decide +kernel
theorem dJ0_charAt_5068e_11 : decode cJ0_charAt_5068e 11 = .ok (.iload_n 1, 1) := by decide +kernel
theorem dJ0_charAt_5068e_12 : decode cJ0_charAt_5068e 12 = .ok (.invokestatic 495, 3) := by decide +kernel
theorem dJ0_charAt_5068e_15 : decode cJ0_charAt_5068e 15 = .ok (.ireturn, 1) := by decide +kernel
theorem dJ0_charAt_5068e_16 : decode cJ0_charAt_5068e 16 = .ok (.aload_n 0, 1) := by decide +kernel
theorem dJ0_charAt_5068e_17 : decode cJ0_charAt_5068e 17 = .ok (.getfield 9, 3) := by decide +kernel
theorem dJ0_charAt_5068e_20 : decode cJ0_charAt_5068e 20 = .ok (.iload_n 1, 1) := by decide +kernel
theorem dJ0_charAt_5068e_21 : decode cJ0_charAt_5068e 21 = .ok (.invokestatic 498, 3) := by decide +kernel
theorem dJ0_charAt_5068e_24 : decode cJ0_charAt_5068e 24 = .ok (.ireturn, 1) := by decide +kernel
theorem dJ0_coder_7d493_0 : decode cJ0_coder_7d493 0 = .ok (.getstatic 38, 3) := by decide +kernel
theorem dJ0_coder_7d493_3 : decode cJ0_coder_7d493 3 = .ok (.ifCond .eq 10, 3) := by decide +kernel
theorem dJ0_coder_7d493_6 : decode cJ0_coder_7d493 6 = .ok (.aload_n 0, 1) := by decide +kernel
theorem dJ0_coder_7d493_7 : decode cJ0_coder_7d493 7 = .ok (.getfield 15, 3) := by decide +kernel
theorem dJ0_coder_7d493_10 : decode cJ0_coder_7d493 10 = .ok (.goto 4, 3) := by decide +kernel
theorem dJ0_coder_7d493_13 : decode cJ0_coder_7d493 13 = .ok (.iconst 1, 1) := by decide +kernel
theorem dJ0_coder_7d493_14 : decode cJ0_coder_7d493 14 = .ok (.ireturn, 1) := by decide +kernel
theorem dJ0_isLatin1_aae02_0 : decode cJ0_isLatin1_aae02 0 = .ok (.getstatic 38, 3) := by decide +kernel
theorem dJ0_isLatin1_aae02_3 : decode cJ0_isLatin1_aae02 3 = .ok (.ifCond .eq 14, 3) := by decide +kernel
theorem dJ0_isLatin1_aae02_6 : decode cJ0_isLatin1_aae02 6 = .ok (.aload_n 0, 1) := by decide +kernel
theorem dJ0_isLatin1_aae02_7 : decode cJ0_isLatin1_aae02 7 = .ok (.getfield 15, 3) := by decide +kernel
theorem dJ0_isLatin1_aae02_10 : decode cJ0_isLatin1_aae02 10 = .ok (.ifCond .ne 7, 3) := by decide +kernel
theorem dJ0_isLatin1_aae02_13 : decode cJ0_isLatin1_aae02 13 = .ok (.iconst 1, 1) := by decide +kernel
theorem dJ0_isLatin1_aae02_14 : decode cJ0_isLatin1_aae02 14 = .ok (.goto 4, 3) := by decide +kernel
theorem dJ0_isLatin1_aae02_17 : decode cJ0_isLatin1_aae02 17 = .ok (.iconst 0, 1) := by decide +kernel
theorem dJ0_isLatin1_aae02_18 : decode cJ0_isLatin1_aae02 18 = .ok (.ireturn, 1) := by decide +kernel
theorem dJ0_checkIndex_df160_0 : decode cJ0_checkIndex_df160 0 = .ok (.iload_n 0, 1) := by decide +kernel
theorem dJ0_checkIndex_df160_1 : decode cJ0_checkIndex_df160 1 = .ok (.iload_n 1, 1) := by decide +kernel
theorem dJ0_checkIndex_df160_2 : decode cJ0_checkIndex_df160 2 = .ok (.getstatic 1053, 3) := by decide +kernel
theorem dJ0_checkIndex_df160_5 : decode cJ0_checkIndex_df160 5 = .ok (.invokestatic 1059, 3) := by decide +kernel
theorem dJ0_checkIndex_df160_8 : decode cJ0_checkIndex_df160 8 = .ok (.pop, 1) := by decide +kernel
theorem dJ0_checkIndex_df160_9 : decode cJ0_checkIndex_df160 9 = .ok (.return_, 1) := by decide +kernel
theorem dJ1_charAt_3b067_0 : decode cJ1_charAt_3b067 0 = .ok (.iload_n 1, 1) := by decide +kernel
theorem dJ1_charAt_3b067_1 : decode cJ1_charAt_3b067 1 = .ok (.aload_n 0, 1) := by decide +kernel
theorem dJ1_charAt_3b067_2 : decode cJ1_charAt_3b067 2 = .ok (.arraylength, 1) := by decide +kernel
theorem dJ1_charAt_3b067_3 : decode cJ1_charAt_3b067 3 = .ok (.invokestatic 9, 3) := by decide +kernel
theorem dJ1_charAt_3b067_6 : decode cJ1_charAt_3b067 6 = .ok (.aload_n 0, 1) := by decide +kernel
theorem dJ1_charAt_3b067_7 : decode cJ1_charAt_3b067 7 = .ok (.iload_n 1, 1) := by decide +kernel
theorem dJ1_charAt_3b067_8 : decode cJ1_charAt_3b067 8 = .ok (.baload, 1) := by decide +kernel
theorem dJ1_charAt_3b067_9 : decode cJ1_charAt_3b067 9 = .ok (.sipush 255, 3) := by decide +kernel
theorem dJ1_charAt_3b067_12 : decode cJ1_charAt_3b067 12 = .ok (.iand, 1) := by decide +kernel
theorem dJ1_charAt_3b067_13 : decode cJ1_charAt_3b067 13 = .ok (.i2c, 1) := by decide +kernel
theorem dJ1_charAt_3b067_14 : decode cJ1_charAt_3b067 14 = .ok (.ireturn, 1) := by decide +kernel
theorem dJ2_getChar_3b067_0 : decode cJ2_getChar_3b067 0 = .ok (.getstatic 44, 3) := by decide +kernel
theorem dJ2_getChar_3b067_3 : decode cJ2_getChar_3b067 3 = .ok (.ifCond .ne 25, 3) := by decide +kernel
theorem dJ2_getChar_3b067_6 : decode cJ2_getChar_3b067 6 = .ok (.iload_n 1, 1) := by decide +kernel
theorem dJ2_getChar_3b067_7 : decode cJ2_getChar_3b067 7 = .ok (.ifCond .lt 11, 3) := by decide +kernel
theorem dJ2_getChar_3b067_10 : decode cJ2_getChar_3b067 10 = .ok (.iload_n 1, 1) := by decide +kernel
theorem dJ2_getChar_3b067_11 : decode cJ2_getChar_3b067 11 = .ok (.aload_n 0, 1) := by decide +kernel
theorem dJ2_getChar_3b067_12 : decode cJ2_getChar_3b067 12 = .ok (.invokestatic 48, 3) := by decide +kernel
theorem dJ2_getChar_3b067_15 : decode cJ2_getChar_3b067 15 = .ok (.if_icmp .lt 13, 3) := by decide +kernel
theorem dJ2_getChar_3b067_18 : decode cJ2_getChar_3b067 18 = .ok (.new 52, 3) := by decide +kernel
theorem dJ2_getChar_3b067_21 : decode cJ2_getChar_3b067 21 = .ok (.dup, 1) := by decide +kernel
theorem dJ2_getChar_3b067_22 : decode cJ2_getChar_3b067 22 = .ok (.ldc 54, 2) := by decide +kernel
theorem dJ2_getChar_3b067_24 : decode cJ2_getChar_3b067 24 = .ok (.invokespecial 56, 3) := by decide +kernel
theorem dJ2_getChar_3b067_27 : decode cJ2_getChar_3b067 27 = .ok (.athrow, 1) := by decide +kernel
theorem dJ2_getChar_3b067_28 : decode cJ2_getChar_3b067 28 = .ok (.iload_n 1, 1) := by decide +kernel
theorem dJ2_getChar_3b067_29 : decode cJ2_getChar_3b067 29 = .ok (.iconst 1, 1) := by decide +kernel
theorem dJ2_getChar_3b067_30 : decode cJ2_getChar_3b067 30 = .ok (.ishl, 1) := by decide +kernel
theorem dJ2_getChar_3b067_31 : decode cJ2_getChar_3b067 31 = .ok (.istore_n 1, 1) := by decide +kernel
theorem dJ2_getChar_3b067_32 : decode cJ2_getChar_3b067 32 = .ok (.aload_n 0, 1) := by decide +kernel
theorem dJ2_getChar_3b067_33 : decode cJ2_getChar_3b067 33 = .ok (.iload_n 1, 1) := by decide +kernel
theorem dJ2_getChar_3b067_34 : decode cJ2_getChar_3b067 34 = .ok (.iinc 1 1, 3) := by decide +kernel
theorem dJ2_getChar_3b067_37 : decode cJ2_getChar_3b067 37 = .ok (.baload, 1) := by decide +kernel
theorem dJ2_getChar_3b067_38 : decode cJ2_getChar_3b067 38 = .ok (.sipush 255, 3) := by decide +kernel
theorem dJ2_getChar_3b067_41 : decode cJ2_getChar_3b067 41 = .ok (.iand, 1) := by decide +kernel
theorem dJ2_getChar_3b067_42 : decode cJ2_getChar_3b067 42 = .ok (.getstatic 59, 3) := by decide +kernel
theorem dJ2_getChar_3b067_45 : decode cJ2_getChar_3b067 45 = .ok (.ishl, 1) := by decide +kernel
theorem dJ2_getChar_3b067_46 : decode cJ2_getChar_3b067 46 = .ok (.aload_n 0, 1) := by decide +kernel
theorem dJ2_getChar_3b067_47 : decode cJ2_getChar_3b067 47 = .ok (.iload_n 1, 1) := by decide +kernel
theorem dJ2_getChar_3b067_48 : decode cJ2_getChar_3b067 48 = .ok (.baload, 1) := by decide +kernel
theorem dJ2_getChar_3b067_49 : decode cJ2_getChar_3b067 49 = .ok (.sipush 255, 3) := by decide +kernel
theorem dJ2_getChar_3b067_52 : decode cJ2_getChar_3b067 52 = .ok (.iand, 1) := by decide +kernel
theorem dJ2_getChar_3b067_53 : decode cJ2_getChar_3b067 53 = .ok (.getstatic 63, 3) := by decide +kernel
theorem dJ2_getChar_3b067_56 : decode cJ2_getChar_3b067 56 = .ok (.ishl, 1) := by decide +kernel
theorem dJ2_getChar_3b067_57 : decode cJ2_getChar_3b067 57 = .ok (.ior, 1) := by decide +kernel
theorem dJ2_getChar_3b067_58 : decode cJ2_getChar_3b067 58 = .ok (.i2c, 1) := by decide +kernel
theorem dJ2_getChar_3b067_59 : decode cJ2_getChar_3b067 59 = .ok (.ireturn, 1) := by decide +kernel
theorem dJ2_length_9d52b_0 : decode cJ2_length_9d52b 0 = .ok (.aload_n 0, 1) := by decide +kernel
theorem dJ2_length_9d52b_1 : decode cJ2_length_9d52b 1 = .ok (.arraylength, 1) := by decide +kernel
theorem dJ2_length_9d52b_2 : decode cJ2_length_9d52b 2 = .ok (.iconst 1, 1) := by decide +kernel
theorem dJ2_length_9d52b_3 : decode cJ2_length_9d52b 3 = .ok (.ishr, 1) := by decide +kernel
theorem dJ2_length_9d52b_4 : decode cJ2_length_9d52b 4 = .ok (.ireturn, 1) := by decide +kernel
theorem dJ2_charAt_3b067_0 : decode cJ2_charAt_3b067 0 = .ok (.iload_n 1, 1) := by decide +kernel
theorem dJ2_charAt_3b067_1 : decode cJ2_charAt_3b067 1 = .ok (.aload_n 0, 1) := by decide +kernel
theorem dJ2_charAt_3b067_2 : decode cJ2_charAt_3b067 2 = .ok (.invokestatic 67, 3) := by decide +kernel
theorem dJ2_charAt_3b067_5 : decode cJ2_charAt_3b067 5 = .ok (.aload_n 0, 1) := by decide +kernel
theorem dJ2_charAt_3b067_6 : decode cJ2_charAt_3b067 6 = .ok (.iload_n 1, 1) := by decide +kernel
theorem dJ2_charAt_3b067_7 : decode cJ2_charAt_3b067 7 = .ok (.invokestatic 71, 3) := by decide +kernel
theorem dJ2_charAt_3b067_10 : decode cJ2_charAt_3b067 10 = .ok (.ireturn, 1) := by decide +kernel
theorem dJ2_checkIndex_2214a_0 : decode cJ2_checkIndex_2214a 0 = .ok (.iload_n 0, 1) := by decide +kernel
theorem dJ2_checkIndex_2214a_1 : decode cJ2_checkIndex_2214a 1 = .ok (.aload_n 1, 1) := by decide +kernel
theorem dJ2_checkIndex_2214a_2 : decode cJ2_checkIndex_2214a 2 = .ok (.invokestatic 48, 3) := by decide +kernel
theorem dJ2_checkIndex_2214a_5 : decode cJ2_checkIndex_2214a 5 = .ok (.invokestatic 414, 3) := by decide +kernel
theorem dJ2_checkIndex_2214a_8 : decode cJ2_checkIndex_2214a 8 = .ok (.return_, 1) := by decide +kernel
theorem dJ7_fill_d0a16_0 : decode cJ7_fill_d0a16 0 = .ok (.iconst 0, 1) := by decide +kernel
theorem dJ7_fill_d0a16_1 : decode cJ7_fill_d0a16 1 = .ok (.istore_n 3, 1) := by decide +kernel
theorem dJ7_fill_d0a16_2 : decode cJ7_fill_d0a16 2 = .ok (.aload_n 0, 1) := by decide +kernel
theorem dJ7_fill_d0a16_3 : decode cJ7_fill_d0a16 3 = .ok (.arraylength, 1) := by decide +kernel
theorem dJ7_fill_d0a16_4 : decode cJ7_fill_d0a16 4 = .ok (.istore 4, 2) := by decide +kernel
theorem dJ7_fill_d0a16_6 : decode cJ7_fill_d0a16 6 = .ok (.iload_n 3, 1) := by decide +kernel
theorem dJ7_fill_d0a16_7 : decode cJ7_fill_d0a16 7 = .ok (.iload 4, 2) := by decide +kernel
theorem dJ7_fill_d0a16_9 : decode cJ7_fill_d0a16 9 = .ok (.if_icmp .ge 13, 3) := by decide +kernel
theorem dJ7_fill_d0a16_12 : decode cJ7_fill_d0a16 12 = .ok (.aload_n 0, 1) := by decide +kernel
theorem dJ7_fill_d0a16_13 : decode cJ7_fill_d0a16 13 = .ok (.iload_n 3, 1) := by decide +kernel
theorem dJ7_fill_d0a16_14 : decode cJ7_fill_d0a16 14 = .ok (.lload_n 1, 1) := by decide +kernel
theorem dJ7_fill_d0a16_15 : decode cJ7_fill_d0a16 15 = .ok (.lastore, 1) := by decide +kernel
theorem dJ7_fill_d0a16_16 : decode cJ7_fill_d0a16 16 = .ok (.iinc 3 1, 3) := by decide +kernel
theorem dJ7_fill_d0a16_19 : decode cJ7_fill_d0a16 19 = .ok (.goto (-13), 3) := by decide +kernel
theorem dJ7_fill_d0a16_22 : decode cJ7_fill_d0a16 22 = .ok (.return_, 1) := by decide +kernel
theorem dJ7_fill_53178_0 : decode cJ7_fill_53178 0 = .ok (.iconst 0, 1) := by decide +kernel
theorem dJ7_fill_53178_1 : decode cJ7_fill_53178 1 = .ok (.istore_n 2, 1) := by decide +kernel
theorem dJ7_fill_53178_2 : decode cJ7_fill_53178 2 = .ok (.aload_n 0, 1) := by decide +kernel
theorem dJ7_fill_53178_3 : decode cJ7_fill_53178 3 = .ok (.arraylength, 1) := by decide +kernel
theorem dJ7_fill_53178_4 : decode cJ7_fill_53178 4 = .ok (.istore_n 3, 1) := by decide +kernel
theorem dJ7_fill_53178_5 : decode cJ7_fill_53178 5 = .ok (.iload_n 2, 1) := by decide +kernel
theorem dJ7_fill_53178_6 : decode cJ7_fill_53178 6 = .ok (.iload_n 3, 1) := by decide +kernel
theorem dJ7_fill_53178_7 : decode cJ7_fill_53178 7 = .ok (.if_icmp .ge 13, 3) := by decide +kernel
theorem dJ7_fill_53178_10 : decode cJ7_fill_53178 10 = .ok (.aload_n 0, 1) := by decide +kernel
theorem dJ7_fill_53178_11 : decode cJ7_fill_53178 11 = .ok (.iload_n 2, 1) := by decide +kernel
theorem dJ7_fill_53178_12 : decode cJ7_fill_53178 12 = .ok (.iload_n 1, 1) := by decide +kernel
theorem dJ7_fill_53178_13 : decode cJ7_fill_53178 13 = .ok (.iastore, 1) := by decide +kernel
theorem dJ7_fill_53178_14 : decode cJ7_fill_53178 14 = .ok (.iinc 2 1, 3) := by decide +kernel
theorem dJ7_fill_53178_17 : decode cJ7_fill_53178 17 = .ok (.goto (-12), 3) := by decide +kernel
theorem dJ7_fill_53178_20 : decode cJ7_fill_53178 20 = .ok (.return_, 1) := by decide +kernel
theorem dJ3_checkIndex_8e157_0 : decode cJ3_checkIndex_8e157 0 = .ok (.iload_n 0, 1) := by decide +kernel
theorem dJ3_checkIndex_8e157_1 : decode cJ3_checkIndex_8e157 1 = .ok (.ifCond .lt 8, 3) := by decide +kernel
theorem dJ3_checkIndex_8e157_4 : decode cJ3_checkIndex_8e157 4 = .ok (.iload_n 0, 1) := by decide +kernel
theorem dJ3_checkIndex_8e157_5 : decode cJ3_checkIndex_8e157 5 = .ok (.iload_n 1, 1) := by decide +kernel
theorem dJ3_checkIndex_8e157_6 : decode cJ3_checkIndex_8e157 6 = .ok (.if_icmp .lt 10, 3) := by decide +kernel
theorem dJ3_checkIndex_8e157_9 : decode cJ3_checkIndex_8e157 9 = .ok (.aload_n 2, 1) := by decide +kernel
theorem dJ3_checkIndex_8e157_10 : decode cJ3_checkIndex_8e157 10 = .ok (.iload_n 0, 1) := by decide +kernel
theorem dJ3_checkIndex_8e157_11 : decode cJ3_checkIndex_8e157 11 = .ok (.iload_n 1, 1) := by decide +kernel
theorem dJ3_checkIndex_8e157_12 : decode cJ3_checkIndex_8e157 12 = .ok (.invokestatic 95, 3) := by decide +kernel
theorem dJ3_checkIndex_8e157_15 : decode cJ3_checkIndex_8e157 15 = .ok (.athrow, 1) := by decide +kernel
theorem dJ3_checkIndex_8e157_16 : decode cJ3_checkIndex_8e157 16 = .ok (.iload_n 0, 1) := by decide +kernel
theorem dJ3_checkIndex_8e157_17 : decode cJ3_checkIndex_8e157 17 = .ok (.ireturn, 1) := by decide +kernel
theorem dL_law_0 : decode cL_law 0 = .ok (.new 7, 3) := by decide +kernel
theorem dL_law_3 : decode cL_law 3 = .ok (.dup, 1) := by decide +kernel
theorem dL_law_4 : decode cL_law 4 = .ok (.invokespecial 9, 3) := by decide +kernel
theorem dL_law_7 : decode cL_law 7 = .ok (.astore_n 1, 1) := by decide +kernel
theorem dL_law_8 : decode cL_law 8 = .ok (.new 10, 3) := by decide +kernel
theorem dL_law_11 : decode cL_law 11 = .ok (.dup, 1) := by decide +kernel
theorem dL_law_12 : decode cL_law 12 = .ok (.invokespecial 12, 3) := by decide +kernel
theorem dL_law_15 : decode cL_law 15 = .ok (.astore_n 2, 1) := by decide +kernel
theorem dL_law_16 : decode cL_law 16 = .ok (.iconst 0, 1) := by decide +kernel
theorem dL_law_17 : decode cL_law 17 = .ok (.istore_n 3, 1) := by decide +kernel
theorem dL_law_18 : decode cL_law 18 = .ok (.iload_n 3, 1) := by decide +kernel
theorem dL_law_19 : decode cL_law 19 = .ok (.aload_n 0, 1) := by decide +kernel
theorem dL_law_20 : decode cL_law 20 = .ok (.arraylength, 1) := by decide +kernel
theorem dL_law_21 : decode cL_law 21 = .ok (.bipush 6, 2) := by decide +kernel
theorem dL_law_23 : decode cL_law 23 = .ok (.isub, 1) := by decide +kernel
theorem dL_law_24 : decode cL_law 24 = .ok (.if_icmp .gt 1179, 3) := by decide +kernel
theorem dL_law_27 : decode cL_law 27 = .ok (.aload_n 0, 1) := by decide +kernel
theorem dL_law_28 : decode cL_law 28 = .ok (.iload_n 3, 1) := by decide +kernel
theorem dL_law_29 : decode cL_law 29 = .ok (.iaload, 1) := by decide +kernel
theorem dL_law_30 : decode cL_law 30 = .ok (.bipush 31, 2) := by decide +kernel
theorem dL_law_32 : decode cL_law 32 = .ok (.iand, 1) := by decide +kernel
theorem dL_law_33 : decode cL_law 33 = .ok (.tableswitch 1164 0 30 #[139, 202, 225, 238, 251, 274, 337, 380, 404, 418, 451, 474, 527, 590, 633, 686, 719, 752, 775, 798, 821, 854, 887, 940, 973, 1016, 1049, 1072, 1095, 1118, 1141], 139) := by decide +kernel
theorem dL_law_172 : decode cL_law 172 = .ok (.aload_n 1, 1) := by decide +kernel
theorem dL_law_173 : decode cL_law 173 = .ok (.aload_n 0, 1) := by decide +kernel
theorem dL_law_174 : decode cL_law 174 = .ok (.iload_n 3, 1) := by decide +kernel
theorem dL_law_175 : decode cL_law 175 = .ok (.iconst 1, 1) := by decide +kernel
theorem dL_law_176 : decode cL_law 176 = .ok (.iadd, 1) := by decide +kernel
theorem dL_law_177 : decode cL_law 177 = .ok (.iaload, 1) := by decide +kernel
theorem dL_law_178 : decode cL_law 178 = .ok (.aload_n 0, 1) := by decide +kernel
theorem dL_law_179 : decode cL_law 179 = .ok (.iload_n 3, 1) := by decide +kernel
theorem dL_law_180 : decode cL_law 180 = .ok (.iconst 2, 1) := by decide +kernel
theorem dL_law_181 : decode cL_law 181 = .ok (.iadd, 1) := by decide +kernel
theorem dL_law_182 : decode cL_law 182 = .ok (.iaload, 1) := by decide +kernel
theorem dL_law_183 : decode cL_law 183 = .ok (.aload_n 0, 1) := by decide +kernel
theorem dL_law_184 : decode cL_law 184 = .ok (.iload_n 3, 1) := by decide +kernel
theorem dL_law_185 : decode cL_law 185 = .ok (.iconst 3, 1) := by decide +kernel
theorem dL_law_186 : decode cL_law 186 = .ok (.iadd, 1) := by decide +kernel
theorem dL_law_187 : decode cL_law 187 = .ok (.iaload, 1) := by decide +kernel
theorem dL_law_188 : decode cL_law 188 = .ok (.aload_n 0, 1) := by decide +kernel
theorem dL_law_189 : decode cL_law 189 = .ok (.iload_n 3, 1) := by decide +kernel
theorem dL_law_190 : decode cL_law 190 = .ok (.iconst 4, 1) := by decide +kernel
theorem dL_law_191 : decode cL_law 191 = .ok (.iadd, 1) := by decide +kernel
theorem dL_law_192 : decode cL_law 192 = .ok (.iaload, 1) := by decide +kernel
theorem dL_law_193 : decode cL_law 193 = .ok (.aload_n 0, 1) := by decide +kernel
theorem dL_law_194 : decode cL_law 194 = .ok (.iload_n 3, 1) := by decide +kernel
theorem dL_law_195 : decode cL_law 195 = .ok (.iconst 5, 1) := by decide +kernel
theorem dL_law_196 : decode cL_law 196 = .ok (.iadd, 1) := by decide +kernel
theorem dL_law_197 : decode cL_law 197 = .ok (.iaload, 1) := by decide +kernel
theorem dL_law_198 : decode cL_law 198 = .ok (.invokevirtual 13, 3) := by decide +kernel
theorem dL_law_201 : decode cL_law 201 = .ok (.aload_n 2, 1) := by decide +kernel
theorem dL_law_202 : decode cL_law 202 = .ok (.aload_n 0, 1) := by decide +kernel
theorem dL_law_203 : decode cL_law 203 = .ok (.iload_n 3, 1) := by decide +kernel
theorem dL_law_204 : decode cL_law 204 = .ok (.iconst 1, 1) := by decide +kernel
theorem dL_law_205 : decode cL_law 205 = .ok (.iadd, 1) := by decide +kernel
theorem dL_law_206 : decode cL_law 206 = .ok (.iaload, 1) := by decide +kernel
theorem dL_law_207 : decode cL_law 207 = .ok (.aload_n 0, 1) := by decide +kernel
theorem dL_law_208 : decode cL_law 208 = .ok (.iload_n 3, 1) := by decide +kernel
theorem dL_law_209 : decode cL_law 209 = .ok (.iconst 2, 1) := by decide +kernel
theorem dL_law_210 : decode cL_law 210 = .ok (.iadd, 1) := by decide +kernel
theorem dL_law_211 : decode cL_law 211 = .ok (.iaload, 1) := by decide +kernel
theorem dL_law_212 : decode cL_law 212 = .ok (.aload_n 0, 1) := by decide +kernel
theorem dL_law_213 : decode cL_law 213 = .ok (.iload_n 3, 1) := by decide +kernel
theorem dL_law_214 : decode cL_law 214 = .ok (.iconst 3, 1) := by decide +kernel
theorem dL_law_215 : decode cL_law 215 = .ok (.iadd, 1) := by decide +kernel
theorem dL_law_216 : decode cL_law 216 = .ok (.iaload, 1) := by decide +kernel
theorem dL_law_217 : decode cL_law 217 = .ok (.aload_n 0, 1) := by decide +kernel
theorem dL_law_218 : decode cL_law 218 = .ok (.iload_n 3, 1) := by decide +kernel
theorem dL_law_219 : decode cL_law 219 = .ok (.iconst 4, 1) := by decide +kernel
theorem dL_law_220 : decode cL_law 220 = .ok (.iadd, 1) := by decide +kernel
theorem dL_law_221 : decode cL_law 221 = .ok (.iaload, 1) := by decide +kernel
theorem dL_law_222 : decode cL_law 222 = .ok (.aload_n 0, 1) := by decide +kernel
theorem dL_law_223 : decode cL_law 223 = .ok (.iload_n 3, 1) := by decide +kernel
theorem dL_law_224 : decode cL_law 224 = .ok (.iconst 5, 1) := by decide +kernel
theorem dL_law_225 : decode cL_law 225 = .ok (.iadd, 1) := by decide +kernel
theorem dL_law_226 : decode cL_law 226 = .ok (.iaload, 1) := by decide +kernel
theorem dL_law_227 : decode cL_law 227 = .ok (.invokevirtual 17, 3) := by decide +kernel
theorem dL_law_230 : decode cL_law 230 = .ok (.if_icmp .eq 967, 3) := by decide +kernel
theorem dL_law_233 : decode cL_law 233 = .ok (.iconst 0, 1) := by decide +kernel
theorem dL_law_234 : decode cL_law 234 = .ok (.ireturn, 1) := by decide +kernel
theorem dL_law_235 : decode cL_law 235 = .ok (.aload_n 1, 1) := by decide +kernel
theorem dL_law_236 : decode cL_law 236 = .ok (.aload_n 0, 1) := by decide +kernel
theorem dL_law_237 : decode cL_law 237 = .ok (.iload_n 3, 1) := by decide +kernel
theorem dL_law_238 : decode cL_law 238 = .ok (.iconst 1, 1) := by decide +kernel
theorem dL_law_239 : decode cL_law 239 = .ok (.iadd, 1) := by decide +kernel
theorem dL_law_240 : decode cL_law 240 = .ok (.iaload, 1) := by decide +kernel
theorem dL_law_241 : decode cL_law 241 = .ok (.invokevirtual 18, 3) := by decide +kernel
theorem dL_law_244 : decode cL_law 244 = .ok (.aload_n 2, 1) := by decide +kernel
theorem dL_law_245 : decode cL_law 245 = .ok (.aload_n 0, 1) := by decide +kernel
theorem dL_law_246 : decode cL_law 246 = .ok (.iload_n 3, 1) := by decide +kernel
theorem dL_law_247 : decode cL_law 247 = .ok (.iconst 1, 1) := by decide +kernel
theorem dL_law_248 : decode cL_law 248 = .ok (.iadd, 1) := by decide +kernel
theorem dL_law_249 : decode cL_law 249 = .ok (.iaload, 1) := by decide +kernel
theorem dL_law_250 : decode cL_law 250 = .ok (.invokevirtual 22, 3) := by decide +kernel
theorem dL_law_253 : decode cL_law 253 = .ok (.if_icmp .eq 944, 3) := by decide +kernel
theorem dL_law_256 : decode cL_law 256 = .ok (.iconst 0, 1) := by decide +kernel
theorem dL_law_257 : decode cL_law 257 = .ok (.ireturn, 1) := by decide +kernel
theorem dL_law_258 : decode cL_law 258 = .ok (.aload_n 1, 1) := by decide +kernel
theorem dL_law_259 : decode cL_law 259 = .ok (.invokevirtual 23, 3) := by decide +kernel
theorem dL_law_262 : decode cL_law 262 = .ok (.aload_n 2, 1) := by decide +kernel
theorem dL_law_263 : decode cL_law 263 = .ok (.invokevirtual 27, 3) := by decide +kernel
theorem dL_law_266 : decode cL_law 266 = .ok (.if_icmp .eq 931, 3) := by decide +kernel
theorem dL_law_269 : decode cL_law 269 = .ok (.iconst 0, 1) := by decide +kernel
theorem dL_law_270 : decode cL_law 270 = .ok (.ireturn, 1) := by decide +kernel
theorem dL_law_271 : decode cL_law 271 = .ok (.aload_n 1, 1) := by decide +kernel
theorem dL_law_272 : decode cL_law 272 = .ok (.invokevirtual 28, 3) := by decide +kernel
theorem dL_law_275 : decode cL_law 275 = .ok (.aload_n 2, 1) := by decide +kernel
theorem dL_law_276 : decode cL_law 276 = .ok (.invokevirtual 31, 3) := by decide +kernel
theorem dL_law_279 : decode cL_law 279 = .ok (.if_icmp .eq 918, 3) := by decide +kernel
theorem dL_law_282 : decode cL_law 282 = .ok (.iconst 0, 1) := by decide +kernel
theorem dL_law_283 : decode cL_law 283 = .ok (.ireturn, 1) := by decide +kernel
theorem dL_law_284 : decode cL_law 284 = .ok (.aload_n 1, 1) := by decide +kernel
theorem dL_law_285 : decode cL_law 285 = .ok (.aload_n 0, 1) := by decide +kernel
theorem dL_law_286 : decode cL_law 286 = .ok (.iload_n 3, 1) := by decide +kernel
theorem dL_law_287 : decode cL_law 287 = .ok (.iconst 1, 1) := by decide +kernel
theorem dL_law_288 : decode cL_law 288 = .ok (.iadd, 1) := by decide +kernel
theorem dL_law_289 : decode cL_law 289 = .ok (.iaload, 1) := by decide +kernel
theorem dL_law_290 : decode cL_law 290 = .ok (.invokevirtual 32, 3) := by decide +kernel
theorem dL_law_293 : decode cL_law 293 = .ok (.aload_n 2, 1) := by decide +kernel
theorem dL_law_294 : decode cL_law 294 = .ok (.aload_n 0, 1) := by decide +kernel
theorem dL_law_295 : decode cL_law 295 = .ok (.iload_n 3, 1) := by decide +kernel
theorem dL_law_296 : decode cL_law 296 = .ok (.iconst 1, 1) := by decide +kernel
theorem dL_law_297 : decode cL_law 297 = .ok (.iadd, 1) := by decide +kernel
theorem dL_law_298 : decode cL_law 298 = .ok (.iaload, 1) := by decide +kernel
theorem dL_law_299 : decode cL_law 299 = .ok (.invokevirtual 35, 3) := by decide +kernel
theorem dL_law_302 : decode cL_law 302 = .ok (.if_icmp .eq 895, 3) := by decide +kernel
theorem dL_law_305 : decode cL_law 305 = .ok (.iconst 0, 1) := by decide +kernel
theorem dL_law_306 : decode cL_law 306 = .ok (.ireturn, 1) := by decide +kernel
theorem dL_law_307 : decode cL_law 307 = .ok (.aload_n 1, 1) := by decide +kernel
theorem dL_law_308 : decode cL_law 308 = .ok (.aload_n 0, 1) := by decide +kernel
theorem dL_law_309 : decode cL_law 309 = .ok (.iload_n 3, 1) := by decide +kernel
theorem dL_law_310 : decode cL_law 310 = .ok (.iconst 1, 1) := by decide +kernel
theorem dL_law_311 : decode cL_law 311 = .ok (.iadd, 1) := by decide +kernel
theorem dL_law_312 : decode cL_law 312 = .ok (.iaload, 1) := by decide +kernel
theorem dL_law_313 : decode cL_law 313 = .ok (.aload_n 0, 1) := by decide +kernel
theorem dL_law_314 : decode cL_law 314 = .ok (.iload_n 3, 1) := by decide +kernel
theorem dL_law_315 : decode cL_law 315 = .ok (.iconst 2, 1) := by decide +kernel
theorem dL_law_316 : decode cL_law 316 = .ok (.iadd, 1) := by decide +kernel
theorem dL_law_317 : decode cL_law 317 = .ok (.iaload, 1) := by decide +kernel
theorem dL_law_318 : decode cL_law 318 = .ok (.aload_n 0, 1) := by decide +kernel
theorem dL_law_319 : decode cL_law 319 = .ok (.iload_n 3, 1) := by decide +kernel
theorem dL_law_320 : decode cL_law 320 = .ok (.iconst 3, 1) := by decide +kernel
theorem dL_law_321 : decode cL_law 321 = .ok (.iadd, 1) := by decide +kernel
theorem dL_law_322 : decode cL_law 322 = .ok (.iaload, 1) := by decide +kernel
theorem dL_law_323 : decode cL_law 323 = .ok (.aload_n 0, 1) := by decide +kernel
theorem dL_law_324 : decode cL_law 324 = .ok (.iload_n 3, 1) := by decide +kernel
theorem dL_law_325 : decode cL_law 325 = .ok (.iconst 4, 1) := by decide +kernel
theorem dL_law_326 : decode cL_law 326 = .ok (.iadd, 1) := by decide +kernel
theorem dL_law_327 : decode cL_law 327 = .ok (.iaload, 1) := by decide +kernel
theorem dL_law_328 : decode cL_law 328 = .ok (.aload_n 0, 1) := by decide +kernel
theorem dL_law_329 : decode cL_law 329 = .ok (.iload_n 3, 1) := by decide +kernel
theorem dL_law_330 : decode cL_law 330 = .ok (.iconst 5, 1) := by decide +kernel
theorem dL_law_331 : decode cL_law 331 = .ok (.iadd, 1) := by decide +kernel
theorem dL_law_332 : decode cL_law 332 = .ok (.iaload, 1) := by decide +kernel
theorem dL_law_333 : decode cL_law 333 = .ok (.invokevirtual 36, 3) := by decide +kernel
theorem dL_law_336 : decode cL_law 336 = .ok (.aload_n 2, 1) := by decide +kernel
theorem dL_law_337 : decode cL_law 337 = .ok (.aload_n 0, 1) := by decide +kernel
theorem dL_law_338 : decode cL_law 338 = .ok (.iload_n 3, 1) := by decide +kernel
theorem dL_law_339 : decode cL_law 339 = .ok (.iconst 1, 1) := by decide +kernel
theorem dL_law_340 : decode cL_law 340 = .ok (.iadd, 1) := by decide +kernel
theorem dL_law_341 : decode cL_law 341 = .ok (.iaload, 1) := by decide +kernel
theorem dL_law_342 : decode cL_law 342 = .ok (.aload_n 0, 1) := by decide +kernel
theorem dL_law_343 : decode cL_law 343 = .ok (.iload_n 3, 1) := by decide +kernel
theorem dL_law_344 : decode cL_law 344 = .ok (.iconst 2, 1) := by decide +kernel
theorem dL_law_345 : decode cL_law 345 = .ok (.iadd, 1) := by decide +kernel
theorem dL_law_346 : decode cL_law 346 = .ok (.iaload, 1) := by decide +kernel
theorem dL_law_347 : decode cL_law 347 = .ok (.aload_n 0, 1) := by decide +kernel
theorem dL_law_348 : decode cL_law 348 = .ok (.iload_n 3, 1) := by decide +kernel
theorem dL_law_349 : decode cL_law 349 = .ok (.iconst 3, 1) := by decide +kernel
theorem dL_law_350 : decode cL_law 350 = .ok (.iadd, 1) := by decide +kernel
theorem dL_law_351 : decode cL_law 351 = .ok (.iaload, 1) := by decide +kernel
theorem dL_law_352 : decode cL_law 352 = .ok (.aload_n 0, 1) := by decide +kernel
theorem dL_law_353 : decode cL_law 353 = .ok (.iload_n 3, 1) := by decide +kernel
theorem dL_law_354 : decode cL_law 354 = .ok (.iconst 4, 1) := by decide +kernel
theorem dL_law_355 : decode cL_law 355 = .ok (.iadd, 1) := by decide +kernel
theorem dL_law_356 : decode cL_law 356 = .ok (.iaload, 1) := by decide +kernel
theorem dL_law_357 : decode cL_law 357 = .ok (.aload_n 0, 1) := by decide +kernel
theorem dL_law_358 : decode cL_law 358 = .ok (.iload_n 3, 1) := by decide +kernel
theorem dL_law_359 : decode cL_law 359 = .ok (.iconst 5, 1) := by decide +kernel
theorem dL_law_360 : decode cL_law 360 = .ok (.iadd, 1) := by decide +kernel
theorem dL_law_361 : decode cL_law 361 = .ok (.iaload, 1) := by decide +kernel
theorem dL_law_362 : decode cL_law 362 = .ok (.invokevirtual 39, 3) := by decide +kernel
theorem dL_law_365 : decode cL_law 365 = .ok (.if_icmp .eq 832, 3) := by decide +kernel
theorem dL_law_368 : decode cL_law 368 = .ok (.iconst 0, 1) := by decide +kernel
theorem dL_law_369 : decode cL_law 369 = .ok (.ireturn, 1) := by decide +kernel
theorem dL_law_370 : decode cL_law 370 = .ok (.aload_n 1, 1) := by decide +kernel
theorem dL_law_371 : decode cL_law 371 = .ok (.aload_n 0, 1) := by decide +kernel
theorem dL_law_372 : decode cL_law 372 = .ok (.iload_n 3, 1) := by decide +kernel
theorem dL_law_373 : decode cL_law 373 = .ok (.iconst 1, 1) := by decide +kernel
theorem dL_law_374 : decode cL_law 374 = .ok (.iadd, 1) := by decide +kernel
theorem dL_law_375 : decode cL_law 375 = .ok (.iaload, 1) := by decide +kernel
theorem dL_law_376 : decode cL_law 376 = .ok (.aload_n 0, 1) := by decide +kernel
theorem dL_law_377 : decode cL_law 377 = .ok (.iload_n 3, 1) := by decide +kernel
theorem dL_law_378 : decode cL_law 378 = .ok (.iconst 2, 1) := by decide +kernel
theorem dL_law_379 : decode cL_law 379 = .ok (.iadd, 1) := by decide +kernel
theorem dL_law_380 : decode cL_law 380 = .ok (.iaload, 1) := by decide +kernel
theorem dL_law_381 : decode cL_law 381 = .ok (.aload_n 0, 1) := by decide +kernel
theorem dL_law_382 : decode cL_law 382 = .ok (.iload_n 3, 1) := by decide +kernel
theorem dL_law_383 : decode cL_law 383 = .ok (.iconst 3, 1) := by decide +kernel
theorem dL_law_384 : decode cL_law 384 = .ok (.iadd, 1) := by decide +kernel
theorem dL_law_385 : decode cL_law 385 = .ok (.iaload, 1) := by decide +kernel
theorem dL_law_386 : decode cL_law 386 = .ok (.invokevirtual 40, 3) := by decide +kernel
theorem dL_law_389 : decode cL_law 389 = .ok (.aload_n 2, 1) := by decide +kernel
theorem dL_law_390 : decode cL_law 390 = .ok (.aload_n 0, 1) := by decide +kernel
theorem dL_law_391 : decode cL_law 391 = .ok (.iload_n 3, 1) := by decide +kernel
theorem dL_law_392 : decode cL_law 392 = .ok (.iconst 1, 1) := by decide +kernel
theorem dL_law_393 : decode cL_law 393 = .ok (.iadd, 1) := by decide +kernel
theorem dL_law_394 : decode cL_law 394 = .ok (.iaload, 1) := by decide +kernel
theorem dL_law_395 : decode cL_law 395 = .ok (.aload_n 0, 1) := by decide +kernel
theorem dL_law_396 : decode cL_law 396 = .ok (.iload_n 3, 1) := by decide +kernel
theorem dL_law_397 : decode cL_law 397 = .ok (.iconst 2, 1) := by decide +kernel
theorem dL_law_398 : decode cL_law 398 = .ok (.iadd, 1) := by decide +kernel
theorem dL_law_399 : decode cL_law 399 = .ok (.iaload, 1) := by decide +kernel
theorem dL_law_400 : decode cL_law 400 = .ok (.aload_n 0, 1) := by decide +kernel
theorem dL_law_401 : decode cL_law 401 = .ok (.iload_n 3, 1) := by decide +kernel
theorem dL_law_402 : decode cL_law 402 = .ok (.iconst 3, 1) := by decide +kernel
theorem dL_law_403 : decode cL_law 403 = .ok (.iadd, 1) := by decide +kernel
theorem dL_law_404 : decode cL_law 404 = .ok (.iaload, 1) := by decide +kernel
theorem dL_law_405 : decode cL_law 405 = .ok (.invokevirtual 44, 3) := by decide +kernel
theorem dL_law_408 : decode cL_law 408 = .ok (.if_icmp .eq 789, 3) := by decide +kernel
theorem dL_law_411 : decode cL_law 411 = .ok (.iconst 0, 1) := by decide +kernel
theorem dL_law_412 : decode cL_law 412 = .ok (.ireturn, 1) := by decide +kernel
theorem dL_law_413 : decode cL_law 413 = .ok (.aload_n 1, 1) := by decide +kernel
theorem dL_law_414 : decode cL_law 414 = .ok (.aload_n 0, 1) := by decide +kernel
theorem dL_law_415 : decode cL_law 415 = .ok (.iload_n 3, 1) := by decide +kernel
theorem dL_law_416 : decode cL_law 416 = .ok (.iconst 1, 1) := by decide +kernel
theorem dL_law_417 : decode cL_law 417 = .ok (.iadd, 1) := by decide +kernel
theorem dL_law_418 : decode cL_law 418 = .ok (.iaload, 1) := by decide +kernel
theorem dL_law_419 : decode cL_law 419 = .ok (.invokevirtual 45, 3) := by decide +kernel
theorem dL_law_422 : decode cL_law 422 = .ok (.aload_n 2, 1) := by decide +kernel
theorem dL_law_423 : decode cL_law 423 = .ok (.aload_n 0, 1) := by decide +kernel
theorem dL_law_424 : decode cL_law 424 = .ok (.iload_n 3, 1) := by decide +kernel
theorem dL_law_425 : decode cL_law 425 = .ok (.iconst 1, 1) := by decide +kernel
theorem dL_law_426 : decode cL_law 426 = .ok (.iadd, 1) := by decide +kernel
theorem dL_law_427 : decode cL_law 427 = .ok (.iaload, 1) := by decide +kernel
theorem dL_law_428 : decode cL_law 428 = .ok (.invokevirtual 49, 3) := by decide +kernel
theorem dL_law_431 : decode cL_law 431 = .ok (.lcmp, 1) := by decide +kernel
theorem dL_law_432 : decode cL_law 432 = .ok (.ifCond .eq 765, 3) := by decide +kernel
theorem dL_law_435 : decode cL_law 435 = .ok (.iconst 0, 1) := by decide +kernel
theorem dL_law_436 : decode cL_law 436 = .ok (.ireturn, 1) := by decide +kernel
theorem dL_law_437 : decode cL_law 437 = .ok (.aload_n 1, 1) := by decide +kernel
theorem dL_law_438 : decode cL_law 438 = .ok (.invokevirtual 50, 3) := by decide +kernel
theorem dL_law_441 : decode cL_law 441 = .ok (.aload_n 2, 1) := by decide +kernel
theorem dL_law_442 : decode cL_law 442 = .ok (.invokevirtual 54, 3) := by decide +kernel
theorem dL_law_445 : decode cL_law 445 = .ok (.lcmp, 1) := by decide +kernel
theorem dL_law_446 : decode cL_law 446 = .ok (.ifCond .eq 751, 3) := by decide +kernel
theorem dL_law_449 : decode cL_law 449 = .ok (.iconst 0, 1) := by decide +kernel
theorem dL_law_450 : decode cL_law 450 = .ok (.ireturn, 1) := by decide +kernel
theorem dL_law_451 : decode cL_law 451 = .ok (.aload_n 1, 1) := by decide +kernel
theorem dL_law_452 : decode cL_law 452 = .ok (.aload_n 0, 1) := by decide +kernel
theorem dL_law_453 : decode cL_law 453 = .ok (.iload_n 3, 1) := by decide +kernel
theorem dL_law_454 : decode cL_law 454 = .ok (.iconst 1, 1) := by decide +kernel
theorem dL_law_455 : decode cL_law 455 = .ok (.iadd, 1) := by decide +kernel
theorem dL_law_456 : decode cL_law 456 = .ok (.iaload, 1) := by decide +kernel
theorem dL_law_457 : decode cL_law 457 = .ok (.aload_n 0, 1) := by decide +kernel
theorem dL_law_458 : decode cL_law 458 = .ok (.iload_n 3, 1) := by decide +kernel
theorem dL_law_459 : decode cL_law 459 = .ok (.iconst 2, 1) := by decide +kernel
theorem dL_law_460 : decode cL_law 460 = .ok (.iadd, 1) := by decide +kernel
theorem dL_law_461 : decode cL_law 461 = .ok (.iaload, 1) := by decide +kernel
theorem dL_law_462 : decode cL_law 462 = .ok (.invokevirtual 55, 3) := by decide +kernel
theorem dL_law_465 : decode cL_law 465 = .ok (.aload_n 2, 1) := by decide +kernel
theorem dL_law_466 : decode cL_law 466 = .ok (.aload_n 0, 1) := by decide +kernel
theorem dL_law_467 : decode cL_law 467 = .ok (.iload_n 3, 1) := by decide +kernel
theorem dL_law_468 : decode cL_law 468 = .ok (.iconst 1, 1) := by decide +kernel
theorem dL_law_469 : decode cL_law 469 = .ok (.iadd, 1) := by decide +kernel
theorem dL_law_470 : decode cL_law 470 = .ok (.iaload, 1) := by decide +kernel
theorem dL_law_471 : decode cL_law 471 = .ok (.aload_n 0, 1) := by decide +kernel
theorem dL_law_472 : decode cL_law 472 = .ok (.iload_n 3, 1) := by decide +kernel
theorem dL_law_473 : decode cL_law 473 = .ok (.iconst 2, 1) := by decide +kernel
theorem dL_law_474 : decode cL_law 474 = .ok (.iadd, 1) := by decide +kernel
theorem dL_law_475 : decode cL_law 475 = .ok (.iaload, 1) := by decide +kernel
theorem dL_law_476 : decode cL_law 476 = .ok (.invokevirtual 59, 3) := by decide +kernel
theorem dL_law_479 : decode cL_law 479 = .ok (.if_icmp .eq 718, 3) := by decide +kernel
theorem dL_law_482 : decode cL_law 482 = .ok (.iconst 0, 1) := by decide +kernel
theorem dL_law_483 : decode cL_law 483 = .ok (.ireturn, 1) := by decide +kernel
theorem dL_law_484 : decode cL_law 484 = .ok (.aload_n 1, 1) := by decide +kernel
theorem dL_law_485 : decode cL_law 485 = .ok (.aload_n 0, 1) := by decide +kernel
theorem dL_law_486 : decode cL_law 486 = .ok (.iload_n 3, 1) := by decide +kernel
theorem dL_law_487 : decode cL_law 487 = .ok (.iconst 1, 1) := by decide +kernel
theorem dL_law_488 : decode cL_law 488 = .ok (.iadd, 1) := by decide +kernel
theorem dL_law_489 : decode cL_law 489 = .ok (.iaload, 1) := by decide +kernel
theorem dL_law_490 : decode cL_law 490 = .ok (.invokevirtual 60, 3) := by decide +kernel
theorem dL_law_493 : decode cL_law 493 = .ok (.aload_n 2, 1) := by decide +kernel
theorem dL_law_494 : decode cL_law 494 = .ok (.aload_n 0, 1) := by decide +kernel
theorem dL_law_495 : decode cL_law 495 = .ok (.iload_n 3, 1) := by decide +kernel
theorem dL_law_496 : decode cL_law 496 = .ok (.iconst 1, 1) := by decide +kernel
theorem dL_law_497 : decode cL_law 497 = .ok (.iadd, 1) := by decide +kernel
theorem dL_law_498 : decode cL_law 498 = .ok (.iaload, 1) := by decide +kernel
theorem dL_law_499 : decode cL_law 499 = .ok (.invokevirtual 63, 3) := by decide +kernel
theorem dL_law_502 : decode cL_law 502 = .ok (.if_icmp .eq 695, 3) := by decide +kernel
theorem dL_law_505 : decode cL_law 505 = .ok (.iconst 0, 1) := by decide +kernel
theorem dL_law_506 : decode cL_law 506 = .ok (.ireturn, 1) := by decide +kernel
theorem dL_law_507 : decode cL_law 507 = .ok (.aload_n 1, 1) := by decide +kernel
theorem dL_law_508 : decode cL_law 508 = .ok (.aload_n 0, 1) := by decide +kernel
theorem dL_law_509 : decode cL_law 509 = .ok (.iload_n 3, 1) := by decide +kernel
theorem dL_law_510 : decode cL_law 510 = .ok (.iconst 1, 1) := by decide +kernel
theorem dL_law_511 : decode cL_law 511 = .ok (.iadd, 1) := by decide +kernel
theorem dL_law_512 : decode cL_law 512 = .ok (.iaload, 1) := by decide +kernel
theorem dL_law_513 : decode cL_law 513 = .ok (.aload_n 0, 1) := by decide +kernel
theorem dL_law_514 : decode cL_law 514 = .ok (.iload_n 3, 1) := by decide +kernel
theorem dL_law_515 : decode cL_law 515 = .ok (.iconst 2, 1) := by decide +kernel
theorem dL_law_516 : decode cL_law 516 = .ok (.iadd, 1) := by decide +kernel
theorem dL_law_517 : decode cL_law 517 = .ok (.iaload, 1) := by decide +kernel
theorem dL_law_518 : decode cL_law 518 = .ok (.aload_n 0, 1) := by decide +kernel
theorem dL_law_519 : decode cL_law 519 = .ok (.iload_n 3, 1) := by decide +kernel
theorem dL_law_520 : decode cL_law 520 = .ok (.iconst 3, 1) := by decide +kernel
theorem dL_law_521 : decode cL_law 521 = .ok (.iadd, 1) := by decide +kernel
theorem dL_law_522 : decode cL_law 522 = .ok (.iaload, 1) := by decide +kernel
theorem dL_law_523 : decode cL_law 523 = .ok (.aload_n 0, 1) := by decide +kernel
theorem dL_law_524 : decode cL_law 524 = .ok (.iload_n 3, 1) := by decide +kernel
theorem dL_law_525 : decode cL_law 525 = .ok (.iconst 4, 1) := by decide +kernel
theorem dL_law_526 : decode cL_law 526 = .ok (.iadd, 1) := by decide +kernel
theorem dL_law_527 : decode cL_law 527 = .ok (.iaload, 1) := by decide +kernel
theorem dL_law_528 : decode cL_law 528 = .ok (.invokevirtual 64, 3) := by decide +kernel
theorem dL_law_531 : decode cL_law 531 = .ok (.aload_n 2, 1) := by decide +kernel
theorem dL_law_532 : decode cL_law 532 = .ok (.aload_n 0, 1) := by decide +kernel
theorem dL_law_533 : decode cL_law 533 = .ok (.iload_n 3, 1) := by decide +kernel
theorem dL_law_534 : decode cL_law 534 = .ok (.iconst 1, 1) := by decide +kernel
theorem dL_law_535 : decode cL_law 535 = .ok (.iadd, 1) := by decide +kernel
theorem dL_law_536 : decode cL_law 536 = .ok (.iaload, 1) := by decide +kernel
theorem dL_law_537 : decode cL_law 537 = .ok (.aload_n 0, 1) := by decide +kernel
theorem dL_law_538 : decode cL_law 538 = .ok (.iload_n 3, 1) := by decide +kernel
theorem dL_law_539 : decode cL_law 539 = .ok (.iconst 2, 1) := by decide +kernel
theorem dL_law_540 : decode cL_law 540 = .ok (.iadd, 1) := by decide +kernel
theorem dL_law_541 : decode cL_law 541 = .ok (.iaload, 1) := by decide +kernel
theorem dL_law_542 : decode cL_law 542 = .ok (.aload_n 0, 1) := by decide +kernel
theorem dL_law_543 : decode cL_law 543 = .ok (.iload_n 3, 1) := by decide +kernel
theorem dL_law_544 : decode cL_law 544 = .ok (.iconst 3, 1) := by decide +kernel
theorem dL_law_545 : decode cL_law 545 = .ok (.iadd, 1) := by decide +kernel
theorem dL_law_546 : decode cL_law 546 = .ok (.iaload, 1) := by decide +kernel
theorem dL_law_547 : decode cL_law 547 = .ok (.aload_n 0, 1) := by decide +kernel
theorem dL_law_548 : decode cL_law 548 = .ok (.iload_n 3, 1) := by decide +kernel
theorem dL_law_549 : decode cL_law 549 = .ok (.iconst 4, 1) := by decide +kernel
theorem dL_law_550 : decode cL_law 550 = .ok (.iadd, 1) := by decide +kernel
theorem dL_law_551 : decode cL_law 551 = .ok (.iaload, 1) := by decide +kernel
theorem dL_law_552 : decode cL_law 552 = .ok (.invokevirtual 68, 3) := by decide +kernel
theorem dL_law_555 : decode cL_law 555 = .ok (.if_icmp .eq 642, 3) := by decide +kernel
theorem dL_law_558 : decode cL_law 558 = .ok (.iconst 0, 1) := by decide +kernel
theorem dL_law_559 : decode cL_law 559 = .ok (.ireturn, 1) := by decide +kernel
theorem dL_law_560 : decode cL_law 560 = .ok (.aload_n 1, 1) := by decide +kernel
theorem dL_law_561 : decode cL_law 561 = .ok (.aload_n 0, 1) := by decide +kernel
theorem dL_law_562 : decode cL_law 562 = .ok (.iload_n 3, 1) := by decide +kernel
theorem dL_law_563 : decode cL_law 563 = .ok (.iconst 1, 1) := by decide +kernel
theorem dL_law_564 : decode cL_law 564 = .ok (.iadd, 1) := by decide +kernel
theorem dL_law_565 : decode cL_law 565 = .ok (.iaload, 1) := by decide +kernel
theorem dL_law_566 : decode cL_law 566 = .ok (.aload_n 0, 1) := by decide +kernel
theorem dL_law_567 : decode cL_law 567 = .ok (.iload_n 3, 1) := by decide +kernel
theorem dL_law_568 : decode cL_law 568 = .ok (.iconst 2, 1) := by decide +kernel
theorem dL_law_569 : decode cL_law 569 = .ok (.iadd, 1) := by decide +kernel
theorem dL_law_570 : decode cL_law 570 = .ok (.iaload, 1) := by decide +kernel
theorem dL_law_571 : decode cL_law 571 = .ok (.aload_n 0, 1) := by decide +kernel
theorem dL_law_572 : decode cL_law 572 = .ok (.iload_n 3, 1) := by decide +kernel
theorem dL_law_573 : decode cL_law 573 = .ok (.iconst 3, 1) := by decide +kernel
theorem dL_law_574 : decode cL_law 574 = .ok (.iadd, 1) := by decide +kernel
theorem dL_law_575 : decode cL_law 575 = .ok (.iaload, 1) := by decide +kernel
theorem dL_law_576 : decode cL_law 576 = .ok (.aload_n 0, 1) := by decide +kernel
theorem dL_law_577 : decode cL_law 577 = .ok (.iload_n 3, 1) := by decide +kernel
theorem dL_law_578 : decode cL_law 578 = .ok (.iconst 4, 1) := by decide +kernel
theorem dL_law_579 : decode cL_law 579 = .ok (.iadd, 1) := by decide +kernel
theorem dL_law_580 : decode cL_law 580 = .ok (.iaload, 1) := by decide +kernel
theorem dL_law_581 : decode cL_law 581 = .ok (.aload_n 0, 1) := by decide +kernel
theorem dL_law_582 : decode cL_law 582 = .ok (.iload_n 3, 1) := by decide +kernel
theorem dL_law_583 : decode cL_law 583 = .ok (.iconst 5, 1) := by decide +kernel
theorem dL_law_584 : decode cL_law 584 = .ok (.iadd, 1) := by decide +kernel
theorem dL_law_585 : decode cL_law 585 = .ok (.iaload, 1) := by decide +kernel
theorem dL_law_586 : decode cL_law 586 = .ok (.invokevirtual 69, 3) := by decide +kernel
theorem dL_law_589 : decode cL_law 589 = .ok (.aload_n 2, 1) := by decide +kernel
theorem dL_law_590 : decode cL_law 590 = .ok (.aload_n 0, 1) := by decide +kernel
theorem dL_law_591 : decode cL_law 591 = .ok (.iload_n 3, 1) := by decide +kernel
theorem dL_law_592 : decode cL_law 592 = .ok (.iconst 1, 1) := by decide +kernel
theorem dL_law_593 : decode cL_law 593 = .ok (.iadd, 1) := by decide +kernel
theorem dL_law_594 : decode cL_law 594 = .ok (.iaload, 1) := by decide +kernel
theorem dL_law_595 : decode cL_law 595 = .ok (.aload_n 0, 1) := by decide +kernel
theorem dL_law_596 : decode cL_law 596 = .ok (.iload_n 3, 1) := by decide +kernel
theorem dL_law_597 : decode cL_law 597 = .ok (.iconst 2, 1) := by decide +kernel
theorem dL_law_598 : decode cL_law 598 = .ok (.iadd, 1) := by decide +kernel
theorem dL_law_599 : decode cL_law 599 = .ok (.iaload, 1) := by decide +kernel
theorem dL_law_600 : decode cL_law 600 = .ok (.aload_n 0, 1) := by decide +kernel
theorem dL_law_601 : decode cL_law 601 = .ok (.iload_n 3, 1) := by decide +kernel
theorem dL_law_602 : decode cL_law 602 = .ok (.iconst 3, 1) := by decide +kernel
theorem dL_law_603 : decode cL_law 603 = .ok (.iadd, 1) := by decide +kernel
theorem dL_law_604 : decode cL_law 604 = .ok (.iaload, 1) := by decide +kernel
theorem dL_law_605 : decode cL_law 605 = .ok (.aload_n 0, 1) := by decide +kernel
theorem dL_law_606 : decode cL_law 606 = .ok (.iload_n 3, 1) := by decide +kernel
theorem dL_law_607 : decode cL_law 607 = .ok (.iconst 4, 1) := by decide +kernel
theorem dL_law_608 : decode cL_law 608 = .ok (.iadd, 1) := by decide +kernel
theorem dL_law_609 : decode cL_law 609 = .ok (.iaload, 1) := by decide +kernel
theorem dL_law_610 : decode cL_law 610 = .ok (.aload_n 0, 1) := by decide +kernel
theorem dL_law_611 : decode cL_law 611 = .ok (.iload_n 3, 1) := by decide +kernel
theorem dL_law_612 : decode cL_law 612 = .ok (.iconst 5, 1) := by decide +kernel
theorem dL_law_613 : decode cL_law 613 = .ok (.iadd, 1) := by decide +kernel
theorem dL_law_614 : decode cL_law 614 = .ok (.iaload, 1) := by decide +kernel
theorem dL_law_615 : decode cL_law 615 = .ok (.invokevirtual 72, 3) := by decide +kernel
theorem dL_law_618 : decode cL_law 618 = .ok (.if_icmp .eq 579, 3) := by decide +kernel
theorem dL_law_621 : decode cL_law 621 = .ok (.iconst 0, 1) := by decide +kernel
theorem dL_law_622 : decode cL_law 622 = .ok (.ireturn, 1) := by decide +kernel
theorem dL_law_623 : decode cL_law 623 = .ok (.aload_n 1, 1) := by decide +kernel
theorem dL_law_624 : decode cL_law 624 = .ok (.aload_n 0, 1) := by decide +kernel
theorem dL_law_625 : decode cL_law 625 = .ok (.iload_n 3, 1) := by decide +kernel
theorem dL_law_626 : decode cL_law 626 = .ok (.iconst 1, 1) := by decide +kernel
theorem dL_law_627 : decode cL_law 627 = .ok (.iadd, 1) := by decide +kernel
theorem dL_law_628 : decode cL_law 628 = .ok (.iaload, 1) := by decide +kernel
theorem dL_law_629 : decode cL_law 629 = .ok (.aload_n 0, 1) := by decide +kernel
theorem dL_law_630 : decode cL_law 630 = .ok (.iload_n 3, 1) := by decide +kernel
theorem dL_law_631 : decode cL_law 631 = .ok (.iconst 2, 1) := by decide +kernel
theorem dL_law_632 : decode cL_law 632 = .ok (.iadd, 1) := by decide +kernel
theorem dL_law_633 : decode cL_law 633 = .ok (.iaload, 1) := by decide +kernel
theorem dL_law_634 : decode cL_law 634 = .ok (.aload_n 0, 1) := by decide +kernel
theorem dL_law_635 : decode cL_law 635 = .ok (.iload_n 3, 1) := by decide +kernel
theorem dL_law_636 : decode cL_law 636 = .ok (.iconst 3, 1) := by decide +kernel
theorem dL_law_637 : decode cL_law 637 = .ok (.iadd, 1) := by decide +kernel
theorem dL_law_638 : decode cL_law 638 = .ok (.iaload, 1) := by decide +kernel
theorem dL_law_639 : decode cL_law 639 = .ok (.invokevirtual 73, 3) := by decide +kernel
theorem dL_law_642 : decode cL_law 642 = .ok (.aload_n 2, 1) := by decide +kernel
theorem dL_law_643 : decode cL_law 643 = .ok (.aload_n 0, 1) := by decide +kernel
theorem dL_law_644 : decode cL_law 644 = .ok (.iload_n 3, 1) := by decide +kernel
theorem dL_law_645 : decode cL_law 645 = .ok (.iconst 1, 1) := by decide +kernel
theorem dL_law_646 : decode cL_law 646 = .ok (.iadd, 1) := by decide +kernel
theorem dL_law_647 : decode cL_law 647 = .ok (.iaload, 1) := by decide +kernel
theorem dL_law_648 : decode cL_law 648 = .ok (.aload_n 0, 1) := by decide +kernel
theorem dL_law_649 : decode cL_law 649 = .ok (.iload_n 3, 1) := by decide +kernel
theorem dL_law_650 : decode cL_law 650 = .ok (.iconst 2, 1) := by decide +kernel
theorem dL_law_651 : decode cL_law 651 = .ok (.iadd, 1) := by decide +kernel
theorem dL_law_652 : decode cL_law 652 = .ok (.iaload, 1) := by decide +kernel
theorem dL_law_653 : decode cL_law 653 = .ok (.aload_n 0, 1) := by decide +kernel
theorem dL_law_654 : decode cL_law 654 = .ok (.iload_n 3, 1) := by decide +kernel
theorem dL_law_655 : decode cL_law 655 = .ok (.iconst 3, 1) := by decide +kernel
theorem dL_law_656 : decode cL_law 656 = .ok (.iadd, 1) := by decide +kernel
theorem dL_law_657 : decode cL_law 657 = .ok (.iaload, 1) := by decide +kernel
theorem dL_law_658 : decode cL_law 658 = .ok (.invokevirtual 76, 3) := by decide +kernel
theorem dL_law_661 : decode cL_law 661 = .ok (.if_icmp .eq 536, 3) := by decide +kernel
theorem dL_law_664 : decode cL_law 664 = .ok (.iconst 0, 1) := by decide +kernel
theorem dL_law_665 : decode cL_law 665 = .ok (.ireturn, 1) := by decide +kernel
theorem dL_law_666 : decode cL_law 666 = .ok (.aload_n 1, 1) := by decide +kernel
theorem dL_law_667 : decode cL_law 667 = .ok (.aload_n 0, 1) := by decide +kernel
theorem dL_law_668 : decode cL_law 668 = .ok (.iload_n 3, 1) := by decide +kernel
theorem dL_law_669 : decode cL_law 669 = .ok (.iconst 1, 1) := by decide +kernel
theorem dL_law_670 : decode cL_law 670 = .ok (.iadd, 1) := by decide +kernel
theorem dL_law_671 : decode cL_law 671 = .ok (.iaload, 1) := by decide +kernel
theorem dL_law_672 : decode cL_law 672 = .ok (.aload_n 0, 1) := by decide +kernel
theorem dL_law_673 : decode cL_law 673 = .ok (.iload_n 3, 1) := by decide +kernel
theorem dL_law_674 : decode cL_law 674 = .ok (.iconst 2, 1) := by decide +kernel
theorem dL_law_675 : decode cL_law 675 = .ok (.iadd, 1) := by decide +kernel
theorem dL_law_676 : decode cL_law 676 = .ok (.iaload, 1) := by decide +kernel
theorem dL_law_677 : decode cL_law 677 = .ok (.aload_n 0, 1) := by decide +kernel
theorem dL_law_678 : decode cL_law 678 = .ok (.iload_n 3, 1) := by decide +kernel
theorem dL_law_679 : decode cL_law 679 = .ok (.iconst 3, 1) := by decide +kernel
theorem dL_law_680 : decode cL_law 680 = .ok (.iadd, 1) := by decide +kernel
theorem dL_law_681 : decode cL_law 681 = .ok (.iaload, 1) := by decide +kernel
theorem dL_law_682 : decode cL_law 682 = .ok (.aload_n 0, 1) := by decide +kernel
theorem dL_law_683 : decode cL_law 683 = .ok (.iload_n 3, 1) := by decide +kernel
theorem dL_law_684 : decode cL_law 684 = .ok (.iconst 4, 1) := by decide +kernel
theorem dL_law_685 : decode cL_law 685 = .ok (.iadd, 1) := by decide +kernel
theorem dL_law_686 : decode cL_law 686 = .ok (.iaload, 1) := by decide +kernel
theorem dL_law_687 : decode cL_law 687 = .ok (.invokevirtual 77, 3) := by decide +kernel
theorem dL_law_690 : decode cL_law 690 = .ok (.aload_n 2, 1) := by decide +kernel
theorem dL_law_691 : decode cL_law 691 = .ok (.aload_n 0, 1) := by decide +kernel
theorem dL_law_692 : decode cL_law 692 = .ok (.iload_n 3, 1) := by decide +kernel
theorem dL_law_693 : decode cL_law 693 = .ok (.iconst 1, 1) := by decide +kernel
theorem dL_law_694 : decode cL_law 694 = .ok (.iadd, 1) := by decide +kernel
theorem dL_law_695 : decode cL_law 695 = .ok (.iaload, 1) := by decide +kernel
theorem dL_law_696 : decode cL_law 696 = .ok (.aload_n 0, 1) := by decide +kernel
theorem dL_law_697 : decode cL_law 697 = .ok (.iload_n 3, 1) := by decide +kernel
theorem dL_law_698 : decode cL_law 698 = .ok (.iconst 2, 1) := by decide +kernel
theorem dL_law_699 : decode cL_law 699 = .ok (.iadd, 1) := by decide +kernel
theorem dL_law_700 : decode cL_law 700 = .ok (.iaload, 1) := by decide +kernel
theorem dL_law_701 : decode cL_law 701 = .ok (.aload_n 0, 1) := by decide +kernel
theorem dL_law_702 : decode cL_law 702 = .ok (.iload_n 3, 1) := by decide +kernel
theorem dL_law_703 : decode cL_law 703 = .ok (.iconst 3, 1) := by decide +kernel
theorem dL_law_704 : decode cL_law 704 = .ok (.iadd, 1) := by decide +kernel
theorem dL_law_705 : decode cL_law 705 = .ok (.iaload, 1) := by decide +kernel
theorem dL_law_706 : decode cL_law 706 = .ok (.aload_n 0, 1) := by decide +kernel
theorem dL_law_707 : decode cL_law 707 = .ok (.iload_n 3, 1) := by decide +kernel
theorem dL_law_708 : decode cL_law 708 = .ok (.iconst 4, 1) := by decide +kernel
theorem dL_law_709 : decode cL_law 709 = .ok (.iadd, 1) := by decide +kernel
theorem dL_law_710 : decode cL_law 710 = .ok (.iaload, 1) := by decide +kernel
theorem dL_law_711 : decode cL_law 711 = .ok (.invokevirtual 80, 3) := by decide +kernel
theorem dL_law_714 : decode cL_law 714 = .ok (.if_icmp .eq 483, 3) := by decide +kernel
theorem dL_law_717 : decode cL_law 717 = .ok (.iconst 0, 1) := by decide +kernel
theorem dL_law_718 : decode cL_law 718 = .ok (.ireturn, 1) := by decide +kernel
theorem dL_law_719 : decode cL_law 719 = .ok (.aload_n 1, 1) := by decide +kernel
theorem dL_law_720 : decode cL_law 720 = .ok (.aload_n 0, 1) := by decide +kernel
theorem dL_law_721 : decode cL_law 721 = .ok (.iload_n 3, 1) := by decide +kernel
theorem dL_law_722 : decode cL_law 722 = .ok (.iconst 1, 1) := by decide +kernel
theorem dL_law_723 : decode cL_law 723 = .ok (.iadd, 1) := by decide +kernel
theorem dL_law_724 : decode cL_law 724 = .ok (.iaload, 1) := by decide +kernel
theorem dL_law_725 : decode cL_law 725 = .ok (.aload_n 0, 1) := by decide +kernel
theorem dL_law_726 : decode cL_law 726 = .ok (.iload_n 3, 1) := by decide +kernel
theorem dL_law_727 : decode cL_law 727 = .ok (.iconst 2, 1) := by decide +kernel
theorem dL_law_728 : decode cL_law 728 = .ok (.iadd, 1) := by decide +kernel
theorem dL_law_729 : decode cL_law 729 = .ok (.iaload, 1) := by decide +kernel
theorem dL_law_730 : decode cL_law 730 = .ok (.invokevirtual 81, 3) := by decide +kernel
theorem dL_law_733 : decode cL_law 733 = .ok (.aload_n 2, 1) := by decide +kernel
theorem dL_law_734 : decode cL_law 734 = .ok (.aload_n 0, 1) := by decide +kernel
theorem dL_law_735 : decode cL_law 735 = .ok (.iload_n 3, 1) := by decide +kernel
theorem dL_law_736 : decode cL_law 736 = .ok (.iconst 1, 1) := by decide +kernel
theorem dL_law_737 : decode cL_law 737 = .ok (.iadd, 1) := by decide +kernel
theorem dL_law_738 : decode cL_law 738 = .ok (.iaload, 1) := by decide +kernel
theorem dL_law_739 : decode cL_law 739 = .ok (.aload_n 0, 1) := by decide +kernel
theorem dL_law_740 : decode cL_law 740 = .ok (.iload_n 3, 1) := by decide +kernel
theorem dL_law_741 : decode cL_law 741 = .ok (.iconst 2, 1) := by decide +kernel
theorem dL_law_742 : decode cL_law 742 = .ok (.iadd, 1) := by decide +kernel
theorem dL_law_743 : decode cL_law 743 = .ok (.iaload, 1) := by decide +kernel
theorem dL_law_744 : decode cL_law 744 = .ok (.invokevirtual 84, 3) := by decide +kernel
theorem dL_law_747 : decode cL_law 747 = .ok (.if_icmp .eq 450, 3) := by decide +kernel
theorem dL_law_750 : decode cL_law 750 = .ok (.iconst 0, 1) := by decide +kernel
theorem dL_law_751 : decode cL_law 751 = .ok (.ireturn, 1) := by decide +kernel
theorem dL_law_752 : decode cL_law 752 = .ok (.aload_n 1, 1) := by decide +kernel
theorem dL_law_753 : decode cL_law 753 = .ok (.aload_n 0, 1) := by decide +kernel
theorem dL_law_754 : decode cL_law 754 = .ok (.iload_n 3, 1) := by decide +kernel
theorem dL_law_755 : decode cL_law 755 = .ok (.iconst 1, 1) := by decide +kernel
theorem dL_law_756 : decode cL_law 756 = .ok (.iadd, 1) := by decide +kernel
theorem dL_law_757 : decode cL_law 757 = .ok (.iaload, 1) := by decide +kernel
theorem dL_law_758 : decode cL_law 758 = .ok (.aload_n 0, 1) := by decide +kernel
theorem dL_law_759 : decode cL_law 759 = .ok (.iload_n 3, 1) := by decide +kernel
theorem dL_law_760 : decode cL_law 760 = .ok (.iconst 2, 1) := by decide +kernel
theorem dL_law_761 : decode cL_law 761 = .ok (.iadd, 1) := by decide +kernel
theorem dL_law_762 : decode cL_law 762 = .ok (.iaload, 1) := by decide +kernel
theorem dL_law_763 : decode cL_law 763 = .ok (.invokevirtual 85, 3) := by decide +kernel
theorem dL_law_766 : decode cL_law 766 = .ok (.aload_n 2, 1) := by decide +kernel
theorem dL_law_767 : decode cL_law 767 = .ok (.aload_n 0, 1) := by decide +kernel
theorem dL_law_768 : decode cL_law 768 = .ok (.iload_n 3, 1) := by decide +kernel
theorem dL_law_769 : decode cL_law 769 = .ok (.iconst 1, 1) := by decide +kernel
theorem dL_law_770 : decode cL_law 770 = .ok (.iadd, 1) := by decide +kernel
theorem dL_law_771 : decode cL_law 771 = .ok (.iaload, 1) := by decide +kernel
theorem dL_law_772 : decode cL_law 772 = .ok (.aload_n 0, 1) := by decide +kernel
theorem dL_law_773 : decode cL_law 773 = .ok (.iload_n 3, 1) := by decide +kernel
theorem dL_law_774 : decode cL_law 774 = .ok (.iconst 2, 1) := by decide +kernel
theorem dL_law_775 : decode cL_law 775 = .ok (.iadd, 1) := by decide +kernel
theorem dL_law_776 : decode cL_law 776 = .ok (.iaload, 1) := by decide +kernel
theorem dL_law_777 : decode cL_law 777 = .ok (.invokevirtual 88, 3) := by decide +kernel
theorem dL_law_780 : decode cL_law 780 = .ok (.if_icmp .eq 417, 3) := by decide +kernel
theorem dL_law_783 : decode cL_law 783 = .ok (.iconst 0, 1) := by decide +kernel
theorem dL_law_784 : decode cL_law 784 = .ok (.ireturn, 1) := by decide +kernel
theorem dL_law_785 : decode cL_law 785 = .ok (.aload_n 1, 1) := by decide +kernel
theorem dL_law_786 : decode cL_law 786 = .ok (.aload_n 0, 1) := by decide +kernel
theorem dL_law_787 : decode cL_law 787 = .ok (.iload_n 3, 1) := by decide +kernel
theorem dL_law_788 : decode cL_law 788 = .ok (.iconst 1, 1) := by decide +kernel
theorem dL_law_789 : decode cL_law 789 = .ok (.iadd, 1) := by decide +kernel
theorem dL_law_790 : decode cL_law 790 = .ok (.iaload, 1) := by decide +kernel
theorem dL_law_791 : decode cL_law 791 = .ok (.invokevirtual 89, 3) := by decide +kernel
theorem dL_law_794 : decode cL_law 794 = .ok (.aload_n 2, 1) := by decide +kernel
theorem dL_law_795 : decode cL_law 795 = .ok (.aload_n 0, 1) := by decide +kernel
theorem dL_law_796 : decode cL_law 796 = .ok (.iload_n 3, 1) := by decide +kernel
theorem dL_law_797 : decode cL_law 797 = .ok (.iconst 1, 1) := by decide +kernel
theorem dL_law_798 : decode cL_law 798 = .ok (.iadd, 1) := by decide +kernel
theorem dL_law_799 : decode cL_law 799 = .ok (.iaload, 1) := by decide +kernel
theorem dL_law_800 : decode cL_law 800 = .ok (.invokevirtual 92, 3) := by decide +kernel
theorem dL_law_803 : decode cL_law 803 = .ok (.if_icmp .eq 394, 3) := by decide +kernel
theorem dL_law_806 : decode cL_law 806 = .ok (.iconst 0, 1) := by decide +kernel
theorem dL_law_807 : decode cL_law 807 = .ok (.ireturn, 1) := by decide +kernel
theorem dL_law_808 : decode cL_law 808 = .ok (.aload_n 1, 1) := by decide +kernel
theorem dL_law_809 : decode cL_law 809 = .ok (.aload_n 0, 1) := by decide +kernel
theorem dL_law_810 : decode cL_law 810 = .ok (.iload_n 3, 1) := by decide +kernel
theorem dL_law_811 : decode cL_law 811 = .ok (.iconst 1, 1) := by decide +kernel
theorem dL_law_812 : decode cL_law 812 = .ok (.iadd, 1) := by decide +kernel
theorem dL_law_813 : decode cL_law 813 = .ok (.iaload, 1) := by decide +kernel
theorem dL_law_814 : decode cL_law 814 = .ok (.invokevirtual 93, 3) := by decide +kernel
theorem dL_law_817 : decode cL_law 817 = .ok (.aload_n 2, 1) := by decide +kernel
theorem dL_law_818 : decode cL_law 818 = .ok (.aload_n 0, 1) := by decide +kernel
theorem dL_law_819 : decode cL_law 819 = .ok (.iload_n 3, 1) := by decide +kernel
theorem dL_law_820 : decode cL_law 820 = .ok (.iconst 1, 1) := by decide +kernel
theorem dL_law_821 : decode cL_law 821 = .ok (.iadd, 1) := by decide +kernel
theorem dL_law_822 : decode cL_law 822 = .ok (.iaload, 1) := by decide +kernel
theorem dL_law_823 : decode cL_law 823 = .ok (.invokevirtual 96, 3) := by decide +kernel
theorem dL_law_826 : decode cL_law 826 = .ok (.if_icmp .eq 371, 3) := by decide +kernel
theorem dL_law_829 : decode cL_law 829 = .ok (.iconst 0, 1) := by decide +kernel
theorem dL_law_830 : decode cL_law 830 = .ok (.ireturn, 1) := by decide +kernel
theorem dL_law_831 : decode cL_law 831 = .ok (.aload_n 1, 1) := by decide +kernel
theorem dL_law_832 : decode cL_law 832 = .ok (.aload_n 0, 1) := by decide +kernel
theorem dL_law_833 : decode cL_law 833 = .ok (.iload_n 3, 1) := by decide +kernel
theorem dL_law_834 : decode cL_law 834 = .ok (.iconst 1, 1) := by decide +kernel
theorem dL_law_835 : decode cL_law 835 = .ok (.iadd, 1) := by decide +kernel
theorem dL_law_836 : decode cL_law 836 = .ok (.iaload, 1) := by decide +kernel
theorem dL_law_837 : decode cL_law 837 = .ok (.invokevirtual 97, 3) := by decide +kernel
theorem dL_law_840 : decode cL_law 840 = .ok (.aload_n 2, 1) := by decide +kernel
theorem dL_law_841 : decode cL_law 841 = .ok (.aload_n 0, 1) := by decide +kernel
theorem dL_law_842 : decode cL_law 842 = .ok (.iload_n 3, 1) := by decide +kernel
theorem dL_law_843 : decode cL_law 843 = .ok (.iconst 1, 1) := by decide +kernel
theorem dL_law_844 : decode cL_law 844 = .ok (.iadd, 1) := by decide +kernel
theorem dL_law_845 : decode cL_law 845 = .ok (.iaload, 1) := by decide +kernel
theorem dL_law_846 : decode cL_law 846 = .ok (.invokevirtual 100, 3) := by decide +kernel
theorem dL_law_849 : decode cL_law 849 = .ok (.if_icmp .eq 348, 3) := by decide +kernel
theorem dL_law_852 : decode cL_law 852 = .ok (.iconst 0, 1) := by decide +kernel
theorem dL_law_853 : decode cL_law 853 = .ok (.ireturn, 1) := by decide +kernel
theorem dL_law_854 : decode cL_law 854 = .ok (.aload_n 1, 1) := by decide +kernel
theorem dL_law_855 : decode cL_law 855 = .ok (.aload_n 0, 1) := by decide +kernel
theorem dL_law_856 : decode cL_law 856 = .ok (.iload_n 3, 1) := by decide +kernel
theorem dL_law_857 : decode cL_law 857 = .ok (.iconst 1, 1) := by decide +kernel
theorem dL_law_858 : decode cL_law 858 = .ok (.iadd, 1) := by decide +kernel
theorem dL_law_859 : decode cL_law 859 = .ok (.iaload, 1) := by decide +kernel
theorem dL_law_860 : decode cL_law 860 = .ok (.aload_n 0, 1) := by decide +kernel
theorem dL_law_861 : decode cL_law 861 = .ok (.iload_n 3, 1) := by decide +kernel
theorem dL_law_862 : decode cL_law 862 = .ok (.iconst 2, 1) := by decide +kernel
theorem dL_law_863 : decode cL_law 863 = .ok (.iadd, 1) := by decide +kernel
theorem dL_law_864 : decode cL_law 864 = .ok (.iaload, 1) := by decide +kernel
theorem dL_law_865 : decode cL_law 865 = .ok (.invokevirtual 101, 3) := by decide +kernel
theorem dL_law_868 : decode cL_law 868 = .ok (.aload_n 2, 1) := by decide +kernel
theorem dL_law_869 : decode cL_law 869 = .ok (.aload_n 0, 1) := by decide +kernel
theorem dL_law_870 : decode cL_law 870 = .ok (.iload_n 3, 1) := by decide +kernel
theorem dL_law_871 : decode cL_law 871 = .ok (.iconst 1, 1) := by decide +kernel
theorem dL_law_872 : decode cL_law 872 = .ok (.iadd, 1) := by decide +kernel
theorem dL_law_873 : decode cL_law 873 = .ok (.iaload, 1) := by decide +kernel
theorem dL_law_874 : decode cL_law 874 = .ok (.aload_n 0, 1) := by decide +kernel
theorem dL_law_875 : decode cL_law 875 = .ok (.iload_n 3, 1) := by decide +kernel
theorem dL_law_876 : decode cL_law 876 = .ok (.iconst 2, 1) := by decide +kernel
theorem dL_law_877 : decode cL_law 877 = .ok (.iadd, 1) := by decide +kernel
theorem dL_law_878 : decode cL_law 878 = .ok (.iaload, 1) := by decide +kernel
theorem dL_law_879 : decode cL_law 879 = .ok (.invokevirtual 104, 3) := by decide +kernel
theorem dL_law_882 : decode cL_law 882 = .ok (.if_icmp .eq 315, 3) := by decide +kernel
theorem dL_law_885 : decode cL_law 885 = .ok (.iconst 0, 1) := by decide +kernel
theorem dL_law_886 : decode cL_law 886 = .ok (.ireturn, 1) := by decide +kernel
theorem dL_law_887 : decode cL_law 887 = .ok (.aload_n 1, 1) := by decide +kernel
theorem dL_law_888 : decode cL_law 888 = .ok (.aload_n 0, 1) := by decide +kernel
theorem dL_law_889 : decode cL_law 889 = .ok (.iload_n 3, 1) := by decide +kernel
theorem dL_law_890 : decode cL_law 890 = .ok (.iconst 1, 1) := by decide +kernel
theorem dL_law_891 : decode cL_law 891 = .ok (.iadd, 1) := by decide +kernel
theorem dL_law_892 : decode cL_law 892 = .ok (.iaload, 1) := by decide +kernel
theorem dL_law_893 : decode cL_law 893 = .ok (.aload_n 0, 1) := by decide +kernel
theorem dL_law_894 : decode cL_law 894 = .ok (.iload_n 3, 1) := by decide +kernel
theorem dL_law_895 : decode cL_law 895 = .ok (.iconst 2, 1) := by decide +kernel
theorem dL_law_896 : decode cL_law 896 = .ok (.iadd, 1) := by decide +kernel
theorem dL_law_897 : decode cL_law 897 = .ok (.iaload, 1) := by decide +kernel
theorem dL_law_898 : decode cL_law 898 = .ok (.invokevirtual 105, 3) := by decide +kernel
theorem dL_law_901 : decode cL_law 901 = .ok (.aload_n 2, 1) := by decide +kernel
theorem dL_law_902 : decode cL_law 902 = .ok (.aload_n 0, 1) := by decide +kernel
theorem dL_law_903 : decode cL_law 903 = .ok (.iload_n 3, 1) := by decide +kernel
theorem dL_law_904 : decode cL_law 904 = .ok (.iconst 1, 1) := by decide +kernel
theorem dL_law_905 : decode cL_law 905 = .ok (.iadd, 1) := by decide +kernel
theorem dL_law_906 : decode cL_law 906 = .ok (.iaload, 1) := by decide +kernel
theorem dL_law_907 : decode cL_law 907 = .ok (.aload_n 0, 1) := by decide +kernel
theorem dL_law_908 : decode cL_law 908 = .ok (.iload_n 3, 1) := by decide +kernel
theorem dL_law_909 : decode cL_law 909 = .ok (.iconst 2, 1) := by decide +kernel
theorem dL_law_910 : decode cL_law 910 = .ok (.iadd, 1) := by decide +kernel
theorem dL_law_911 : decode cL_law 911 = .ok (.iaload, 1) := by decide +kernel
theorem dL_law_912 : decode cL_law 912 = .ok (.invokevirtual 108, 3) := by decide +kernel
theorem dL_law_915 : decode cL_law 915 = .ok (.if_icmp .eq 282, 3) := by decide +kernel
theorem dL_law_918 : decode cL_law 918 = .ok (.iconst 0, 1) := by decide +kernel
theorem dL_law_919 : decode cL_law 919 = .ok (.ireturn, 1) := by decide +kernel
theorem dL_law_920 : decode cL_law 920 = .ok (.aload_n 1, 1) := by decide +kernel
theorem dL_law_921 : decode cL_law 921 = .ok (.aload_n 0, 1) := by decide +kernel
theorem dL_law_922 : decode cL_law 922 = .ok (.iload_n 3, 1) := by decide +kernel
theorem dL_law_923 : decode cL_law 923 = .ok (.iconst 1, 1) := by decide +kernel
theorem dL_law_924 : decode cL_law 924 = .ok (.iadd, 1) := by decide +kernel
theorem dL_law_925 : decode cL_law 925 = .ok (.iaload, 1) := by decide +kernel
theorem dL_law_926 : decode cL_law 926 = .ok (.aload_n 0, 1) := by decide +kernel
theorem dL_law_927 : decode cL_law 927 = .ok (.iload_n 3, 1) := by decide +kernel
theorem dL_law_928 : decode cL_law 928 = .ok (.iconst 2, 1) := by decide +kernel
theorem dL_law_929 : decode cL_law 929 = .ok (.iadd, 1) := by decide +kernel
theorem dL_law_930 : decode cL_law 930 = .ok (.iaload, 1) := by decide +kernel
theorem dL_law_931 : decode cL_law 931 = .ok (.aload_n 0, 1) := by decide +kernel
theorem dL_law_932 : decode cL_law 932 = .ok (.iload_n 3, 1) := by decide +kernel
theorem dL_law_933 : decode cL_law 933 = .ok (.iconst 3, 1) := by decide +kernel
theorem dL_law_934 : decode cL_law 934 = .ok (.iadd, 1) := by decide +kernel
theorem dL_law_935 : decode cL_law 935 = .ok (.iaload, 1) := by decide +kernel
theorem dL_law_936 : decode cL_law 936 = .ok (.aload_n 0, 1) := by decide +kernel
theorem dL_law_937 : decode cL_law 937 = .ok (.iload_n 3, 1) := by decide +kernel
theorem dL_law_938 : decode cL_law 938 = .ok (.iconst 4, 1) := by decide +kernel
theorem dL_law_939 : decode cL_law 939 = .ok (.iadd, 1) := by decide +kernel
theorem dL_law_940 : decode cL_law 940 = .ok (.iaload, 1) := by decide +kernel
theorem dL_law_941 : decode cL_law 941 = .ok (.invokevirtual 109, 3) := by decide +kernel
theorem dL_law_944 : decode cL_law 944 = .ok (.aload_n 2, 1) := by decide +kernel
theorem dL_law_945 : decode cL_law 945 = .ok (.aload_n 0, 1) := by decide +kernel
theorem dL_law_946 : decode cL_law 946 = .ok (.iload_n 3, 1) := by decide +kernel
theorem dL_law_947 : decode cL_law 947 = .ok (.iconst 1, 1) := by decide +kernel
theorem dL_law_948 : decode cL_law 948 = .ok (.iadd, 1) := by decide +kernel
theorem dL_law_949 : decode cL_law 949 = .ok (.iaload, 1) := by decide +kernel
theorem dL_law_950 : decode cL_law 950 = .ok (.aload_n 0, 1) := by decide +kernel
theorem dL_law_951 : decode cL_law 951 = .ok (.iload_n 3, 1) := by decide +kernel
theorem dL_law_952 : decode cL_law 952 = .ok (.iconst 2, 1) := by decide +kernel
theorem dL_law_953 : decode cL_law 953 = .ok (.iadd, 1) := by decide +kernel
theorem dL_law_954 : decode cL_law 954 = .ok (.iaload, 1) := by decide +kernel
theorem dL_law_955 : decode cL_law 955 = .ok (.aload_n 0, 1) := by decide +kernel
theorem dL_law_956 : decode cL_law 956 = .ok (.iload_n 3, 1) := by decide +kernel
theorem dL_law_957 : decode cL_law 957 = .ok (.iconst 3, 1) := by decide +kernel
theorem dL_law_958 : decode cL_law 958 = .ok (.iadd, 1) := by decide +kernel
theorem dL_law_959 : decode cL_law 959 = .ok (.iaload, 1) := by decide +kernel
theorem dL_law_960 : decode cL_law 960 = .ok (.aload_n 0, 1) := by decide +kernel
theorem dL_law_961 : decode cL_law 961 = .ok (.iload_n 3, 1) := by decide +kernel
theorem dL_law_962 : decode cL_law 962 = .ok (.iconst 4, 1) := by decide +kernel
theorem dL_law_963 : decode cL_law 963 = .ok (.iadd, 1) := by decide +kernel
theorem dL_law_964 : decode cL_law 964 = .ok (.iaload, 1) := by decide +kernel
theorem dL_law_965 : decode cL_law 965 = .ok (.invokevirtual 112, 3) := by decide +kernel
theorem dL_law_968 : decode cL_law 968 = .ok (.if_icmp .eq 229, 3) := by decide +kernel
theorem dL_law_971 : decode cL_law 971 = .ok (.iconst 0, 1) := by decide +kernel
theorem dL_law_972 : decode cL_law 972 = .ok (.ireturn, 1) := by decide +kernel
theorem dL_law_973 : decode cL_law 973 = .ok (.aload_n 1, 1) := by decide +kernel
theorem dL_law_974 : decode cL_law 974 = .ok (.aload_n 0, 1) := by decide +kernel
theorem dL_law_975 : decode cL_law 975 = .ok (.iload_n 3, 1) := by decide +kernel
theorem dL_law_976 : decode cL_law 976 = .ok (.iconst 1, 1) := by decide +kernel
theorem dL_law_977 : decode cL_law 977 = .ok (.iadd, 1) := by decide +kernel
theorem dL_law_978 : decode cL_law 978 = .ok (.iaload, 1) := by decide +kernel
theorem dL_law_979 : decode cL_law 979 = .ok (.aload_n 0, 1) := by decide +kernel
theorem dL_law_980 : decode cL_law 980 = .ok (.iload_n 3, 1) := by decide +kernel
theorem dL_law_981 : decode cL_law 981 = .ok (.iconst 2, 1) := by decide +kernel
theorem dL_law_982 : decode cL_law 982 = .ok (.iadd, 1) := by decide +kernel
theorem dL_law_983 : decode cL_law 983 = .ok (.iaload, 1) := by decide +kernel
theorem dL_law_984 : decode cL_law 984 = .ok (.invokevirtual 113, 3) := by decide +kernel
theorem dL_law_987 : decode cL_law 987 = .ok (.aload_n 2, 1) := by decide +kernel
theorem dL_law_988 : decode cL_law 988 = .ok (.aload_n 0, 1) := by decide +kernel
theorem dL_law_989 : decode cL_law 989 = .ok (.iload_n 3, 1) := by decide +kernel
theorem dL_law_990 : decode cL_law 990 = .ok (.iconst 1, 1) := by decide +kernel
theorem dL_law_991 : decode cL_law 991 = .ok (.iadd, 1) := by decide +kernel
theorem dL_law_992 : decode cL_law 992 = .ok (.iaload, 1) := by decide +kernel
theorem dL_law_993 : decode cL_law 993 = .ok (.aload_n 0, 1) := by decide +kernel
theorem dL_law_994 : decode cL_law 994 = .ok (.iload_n 3, 1) := by decide +kernel
theorem dL_law_995 : decode cL_law 995 = .ok (.iconst 2, 1) := by decide +kernel
theorem dL_law_996 : decode cL_law 996 = .ok (.iadd, 1) := by decide +kernel
theorem dL_law_997 : decode cL_law 997 = .ok (.iaload, 1) := by decide +kernel
theorem dL_law_998 : decode cL_law 998 = .ok (.invokevirtual 116, 3) := by decide +kernel
theorem dL_law_1001 : decode cL_law 1001 = .ok (.if_icmp .eq 196, 3) := by decide +kernel
theorem dL_law_1004 : decode cL_law 1004 = .ok (.iconst 0, 1) := by decide +kernel
theorem dL_law_1005 : decode cL_law 1005 = .ok (.ireturn, 1) := by decide +kernel
theorem dL_law_1006 : decode cL_law 1006 = .ok (.aload_n 1, 1) := by decide +kernel
theorem dL_law_1007 : decode cL_law 1007 = .ok (.aload_n 0, 1) := by decide +kernel
theorem dL_law_1008 : decode cL_law 1008 = .ok (.iload_n 3, 1) := by decide +kernel
theorem dL_law_1009 : decode cL_law 1009 = .ok (.iconst 1, 1) := by decide +kernel
theorem dL_law_1010 : decode cL_law 1010 = .ok (.iadd, 1) := by decide +kernel
theorem dL_law_1011 : decode cL_law 1011 = .ok (.iaload, 1) := by decide +kernel
theorem dL_law_1012 : decode cL_law 1012 = .ok (.aload_n 0, 1) := by decide +kernel
theorem dL_law_1013 : decode cL_law 1013 = .ok (.iload_n 3, 1) := by decide +kernel
theorem dL_law_1014 : decode cL_law 1014 = .ok (.iconst 2, 1) := by decide +kernel
theorem dL_law_1015 : decode cL_law 1015 = .ok (.iadd, 1) := by decide +kernel
theorem dL_law_1016 : decode cL_law 1016 = .ok (.iaload, 1) := by decide +kernel
theorem dL_law_1017 : decode cL_law 1017 = .ok (.aload_n 0, 1) := by decide +kernel
theorem dL_law_1018 : decode cL_law 1018 = .ok (.iload_n 3, 1) := by decide +kernel
theorem dL_law_1019 : decode cL_law 1019 = .ok (.iconst 3, 1) := by decide +kernel
theorem dL_law_1020 : decode cL_law 1020 = .ok (.iadd, 1) := by decide +kernel
theorem dL_law_1021 : decode cL_law 1021 = .ok (.iaload, 1) := by decide +kernel
theorem dL_law_1022 : decode cL_law 1022 = .ok (.invokevirtual 117, 3) := by decide +kernel
theorem dL_law_1025 : decode cL_law 1025 = .ok (.aload_n 2, 1) := by decide +kernel
theorem dL_law_1026 : decode cL_law 1026 = .ok (.aload_n 0, 1) := by decide +kernel
theorem dL_law_1027 : decode cL_law 1027 = .ok (.iload_n 3, 1) := by decide +kernel
theorem dL_law_1028 : decode cL_law 1028 = .ok (.iconst 1, 1) := by decide +kernel
theorem dL_law_1029 : decode cL_law 1029 = .ok (.iadd, 1) := by decide +kernel
theorem dL_law_1030 : decode cL_law 1030 = .ok (.iaload, 1) := by decide +kernel
theorem dL_law_1031 : decode cL_law 1031 = .ok (.aload_n 0, 1) := by decide +kernel
theorem dL_law_1032 : decode cL_law 1032 = .ok (.iload_n 3, 1) := by decide +kernel
theorem dL_law_1033 : decode cL_law 1033 = .ok (.iconst 2, 1) := by decide +kernel
theorem dL_law_1034 : decode cL_law 1034 = .ok (.iadd, 1) := by decide +kernel
theorem dL_law_1035 : decode cL_law 1035 = .ok (.iaload, 1) := by decide +kernel
theorem dL_law_1036 : decode cL_law 1036 = .ok (.aload_n 0, 1) := by decide +kernel
theorem dL_law_1037 : decode cL_law 1037 = .ok (.iload_n 3, 1) := by decide +kernel
theorem dL_law_1038 : decode cL_law 1038 = .ok (.iconst 3, 1) := by decide +kernel
theorem dL_law_1039 : decode cL_law 1039 = .ok (.iadd, 1) := by decide +kernel
theorem dL_law_1040 : decode cL_law 1040 = .ok (.iaload, 1) := by decide +kernel
theorem dL_law_1041 : decode cL_law 1041 = .ok (.invokevirtual 120, 3) := by decide +kernel
theorem dL_law_1044 : decode cL_law 1044 = .ok (.if_icmp .eq 153, 3) := by decide +kernel
theorem dL_law_1047 : decode cL_law 1047 = .ok (.iconst 0, 1) := by decide +kernel
theorem dL_law_1048 : decode cL_law 1048 = .ok (.ireturn, 1) := by decide +kernel
theorem dL_law_1049 : decode cL_law 1049 = .ok (.aload_n 1, 1) := by decide +kernel
theorem dL_law_1050 : decode cL_law 1050 = .ok (.aload_n 0, 1) := by decide +kernel
theorem dL_law_1051 : decode cL_law 1051 = .ok (.iload_n 3, 1) := by decide +kernel
theorem dL_law_1052 : decode cL_law 1052 = .ok (.iconst 1, 1) := by decide +kernel
theorem dL_law_1053 : decode cL_law 1053 = .ok (.iadd, 1) := by decide +kernel
theorem dL_law_1054 : decode cL_law 1054 = .ok (.iaload, 1) := by decide +kernel
theorem dL_law_1055 : decode cL_law 1055 = .ok (.aload_n 0, 1) := by decide +kernel
theorem dL_law_1056 : decode cL_law 1056 = .ok (.iload_n 3, 1) := by decide +kernel
theorem dL_law_1057 : decode cL_law 1057 = .ok (.iconst 2, 1) := by decide +kernel
theorem dL_law_1058 : decode cL_law 1058 = .ok (.iadd, 1) := by decide +kernel
theorem dL_law_1059 : decode cL_law 1059 = .ok (.iaload, 1) := by decide +kernel
theorem dL_law_1060 : decode cL_law 1060 = .ok (.invokevirtual 121, 3) := by decide +kernel
theorem dL_law_1063 : decode cL_law 1063 = .ok (.aload_n 2, 1) := by decide +kernel
theorem dL_law_1064 : decode cL_law 1064 = .ok (.aload_n 0, 1) := by decide +kernel
theorem dL_law_1065 : decode cL_law 1065 = .ok (.iload_n 3, 1) := by decide +kernel
theorem dL_law_1066 : decode cL_law 1066 = .ok (.iconst 1, 1) := by decide +kernel
theorem dL_law_1067 : decode cL_law 1067 = .ok (.iadd, 1) := by decide +kernel
theorem dL_law_1068 : decode cL_law 1068 = .ok (.iaload, 1) := by decide +kernel
theorem dL_law_1069 : decode cL_law 1069 = .ok (.aload_n 0, 1) := by decide +kernel
theorem dL_law_1070 : decode cL_law 1070 = .ok (.iload_n 3, 1) := by decide +kernel
theorem dL_law_1071 : decode cL_law 1071 = .ok (.iconst 2, 1) := by decide +kernel
theorem dL_law_1072 : decode cL_law 1072 = .ok (.iadd, 1) := by decide +kernel
theorem dL_law_1073 : decode cL_law 1073 = .ok (.iaload, 1) := by decide +kernel
theorem dL_law_1074 : decode cL_law 1074 = .ok (.invokevirtual 124, 3) := by decide +kernel
theorem dL_law_1077 : decode cL_law 1077 = .ok (.if_icmp .eq 120, 3) := by decide +kernel
theorem dL_law_1080 : decode cL_law 1080 = .ok (.iconst 0, 1) := by decide +kernel
theorem dL_law_1081 : decode cL_law 1081 = .ok (.ireturn, 1) := by decide +kernel
theorem dL_law_1082 : decode cL_law 1082 = .ok (.aload_n 1, 1) := by decide +kernel
theorem dL_law_1083 : decode cL_law 1083 = .ok (.aload_n 0, 1) := by decide +kernel
theorem dL_law_1084 : decode cL_law 1084 = .ok (.iload_n 3, 1) := by decide +kernel
theorem dL_law_1085 : decode cL_law 1085 = .ok (.iconst 1, 1) := by decide +kernel
theorem dL_law_1086 : decode cL_law 1086 = .ok (.iadd, 1) := by decide +kernel
theorem dL_law_1087 : decode cL_law 1087 = .ok (.iaload, 1) := by decide +kernel
theorem dL_law_1088 : decode cL_law 1088 = .ok (.invokevirtual 125, 3) := by decide +kernel
theorem dL_law_1091 : decode cL_law 1091 = .ok (.aload_n 2, 1) := by decide +kernel
theorem dL_law_1092 : decode cL_law 1092 = .ok (.aload_n 0, 1) := by decide +kernel
theorem dL_law_1093 : decode cL_law 1093 = .ok (.iload_n 3, 1) := by decide +kernel
theorem dL_law_1094 : decode cL_law 1094 = .ok (.iconst 1, 1) := by decide +kernel
theorem dL_law_1095 : decode cL_law 1095 = .ok (.iadd, 1) := by decide +kernel
theorem dL_law_1096 : decode cL_law 1096 = .ok (.iaload, 1) := by decide +kernel
theorem dL_law_1097 : decode cL_law 1097 = .ok (.invokevirtual 128, 3) := by decide +kernel
theorem dL_law_1100 : decode cL_law 1100 = .ok (.if_icmp .eq 97, 3) := by decide +kernel
theorem dL_law_1103 : decode cL_law 1103 = .ok (.iconst 0, 1) := by decide +kernel
theorem dL_law_1104 : decode cL_law 1104 = .ok (.ireturn, 1) := by decide +kernel
theorem dL_law_1105 : decode cL_law 1105 = .ok (.aload_n 1, 1) := by decide +kernel
theorem dL_law_1106 : decode cL_law 1106 = .ok (.aload_n 0, 1) := by decide +kernel
theorem dL_law_1107 : decode cL_law 1107 = .ok (.iload_n 3, 1) := by decide +kernel
theorem dL_law_1108 : decode cL_law 1108 = .ok (.iconst 1, 1) := by decide +kernel
theorem dL_law_1109 : decode cL_law 1109 = .ok (.iadd, 1) := by decide +kernel
theorem dL_law_1110 : decode cL_law 1110 = .ok (.iaload, 1) := by decide +kernel
theorem dL_law_1111 : decode cL_law 1111 = .ok (.invokevirtual 129, 3) := by decide +kernel
theorem dL_law_1114 : decode cL_law 1114 = .ok (.aload_n 2, 1) := by decide +kernel
theorem dL_law_1115 : decode cL_law 1115 = .ok (.aload_n 0, 1) := by decide +kernel
theorem dL_law_1116 : decode cL_law 1116 = .ok (.iload_n 3, 1) := by decide +kernel
theorem dL_law_1117 : decode cL_law 1117 = .ok (.iconst 1, 1) := by decide +kernel
theorem dL_law_1118 : decode cL_law 1118 = .ok (.iadd, 1) := by decide +kernel
theorem dL_law_1119 : decode cL_law 1119 = .ok (.iaload, 1) := by decide +kernel
theorem dL_law_1120 : decode cL_law 1120 = .ok (.invokevirtual 132, 3) := by decide +kernel
theorem dL_law_1123 : decode cL_law 1123 = .ok (.if_icmp .eq 74, 3) := by decide +kernel
theorem dL_law_1126 : decode cL_law 1126 = .ok (.iconst 0, 1) := by decide +kernel
theorem dL_law_1127 : decode cL_law 1127 = .ok (.ireturn, 1) := by decide +kernel
theorem dL_law_1128 : decode cL_law 1128 = .ok (.aload_n 1, 1) := by decide +kernel
theorem dL_law_1129 : decode cL_law 1129 = .ok (.aload_n 0, 1) := by decide +kernel
theorem dL_law_1130 : decode cL_law 1130 = .ok (.iload_n 3, 1) := by decide +kernel
theorem dL_law_1131 : decode cL_law 1131 = .ok (.iconst 1, 1) := by decide +kernel
theorem dL_law_1132 : decode cL_law 1132 = .ok (.iadd, 1) := by decide +kernel
theorem dL_law_1133 : decode cL_law 1133 = .ok (.iaload, 1) := by decide +kernel
theorem dL_law_1134 : decode cL_law 1134 = .ok (.invokevirtual 133, 3) := by decide +kernel
theorem dL_law_1137 : decode cL_law 1137 = .ok (.aload_n 2, 1) := by decide +kernel
theorem dL_law_1138 : decode cL_law 1138 = .ok (.aload_n 0, 1) := by decide +kernel
theorem dL_law_1139 : decode cL_law 1139 = .ok (.iload_n 3, 1) := by decide +kernel
theorem dL_law_1140 : decode cL_law 1140 = .ok (.iconst 1, 1) := by decide +kernel
theorem dL_law_1141 : decode cL_law 1141 = .ok (.iadd, 1) := by decide +kernel
theorem dL_law_1142 : decode cL_law 1142 = .ok (.iaload, 1) := by decide +kernel
theorem dL_law_1143 : decode cL_law 1143 = .ok (.invokevirtual 136, 3) := by decide +kernel
theorem dL_law_1146 : decode cL_law 1146 = .ok (.if_icmp .eq 51, 3) := by decide +kernel
theorem dL_law_1149 : decode cL_law 1149 = .ok (.iconst 0, 1) := by decide +kernel
theorem dL_law_1150 : decode cL_law 1150 = .ok (.ireturn, 1) := by decide +kernel
theorem dL_law_1151 : decode cL_law 1151 = .ok (.aload_n 1, 1) := by decide +kernel
theorem dL_law_1152 : decode cL_law 1152 = .ok (.aload_n 0, 1) := by decide +kernel
theorem dL_law_1153 : decode cL_law 1153 = .ok (.iload_n 3, 1) := by decide +kernel
theorem dL_law_1154 : decode cL_law 1154 = .ok (.iconst 1, 1) := by decide +kernel
theorem dL_law_1155 : decode cL_law 1155 = .ok (.iadd, 1) := by decide +kernel
theorem dL_law_1156 : decode cL_law 1156 = .ok (.iaload, 1) := by decide +kernel
theorem dL_law_1157 : decode cL_law 1157 = .ok (.invokevirtual 137, 3) := by decide +kernel
theorem dL_law_1160 : decode cL_law 1160 = .ok (.aload_n 2, 1) := by decide +kernel
theorem dL_law_1161 : decode cL_law 1161 = .ok (.aload_n 0, 1) := by decide +kernel
theorem dL_law_1162 : decode cL_law 1162 = .ok (.iload_n 3, 1) := by decide +kernel
theorem dL_law_1163 : decode cL_law 1163 = .ok (.iconst 1, 1) := by decide +kernel
theorem dL_law_1164 : decode cL_law 1164 = .ok (.iadd, 1) := by decide +kernel
theorem dL_law_1165 : decode cL_law 1165 = .ok (.iaload, 1) := by decide +kernel
theorem dL_law_1166 : decode cL_law 1166 = .ok (.invokevirtual 140, 3) := by decide +kernel
theorem dL_law_1169 : decode cL_law 1169 = .ok (.if_icmp .eq 28, 3) := by decide +kernel
theorem dL_law_1172 : decode cL_law 1172 = .ok (.iconst 0, 1) := by decide +kernel
theorem dL_law_1173 : decode cL_law 1173 = .ok (.ireturn, 1) := by decide +kernel
theorem dL_law_1174 : decode cL_law 1174 = .ok (.aload_n 1, 1) := by decide +kernel
theorem dL_law_1175 : decode cL_law 1175 = .ok (.aload_n 0, 1) := by decide +kernel
theorem dL_law_1176 : decode cL_law 1176 = .ok (.iload_n 3, 1) := by decide +kernel
theorem dL_law_1177 : decode cL_law 1177 = .ok (.iconst 1, 1) := by decide +kernel
theorem dL_law_1178 : decode cL_law 1178 = .ok (.iadd, 1) := by decide +kernel
theorem dL_law_1179 : decode cL_law 1179 = .ok (.iaload, 1) := by decide +kernel
theorem dL_law_1180 : decode cL_law 1180 = .ok (.invokevirtual 141, 3) := by decide +kernel
theorem dL_law_1183 : decode cL_law 1183 = .ok (.aload_n 2, 1) := by decide +kernel
theorem dL_law_1184 : decode cL_law 1184 = .ok (.aload_n 0, 1) := by decide +kernel
theorem dL_law_1185 : decode cL_law 1185 = .ok (.iload_n 3, 1) := by decide +kernel
theorem dL_law_1186 : decode cL_law 1186 = .ok (.iconst 1, 1) := by decide +kernel
theorem dL_law_1187 : decode cL_law 1187 = .ok (.iadd, 1) := by decide +kernel
theorem dL_law_1188 : decode cL_law 1188 = .ok (.iaload, 1) := by decide +kernel
theorem dL_law_1189 : decode cL_law 1189 = .ok (.invokevirtual 144, 3) := by decide +kernel
theorem dL_law_1192 : decode cL_law 1192 = .ok (.if_icmp .eq 5, 3) := by decide +kernel
theorem dL_law_1195 : decode cL_law 1195 = .ok (.iconst 0, 1) := by decide +kernel
theorem dL_law_1196 : decode cL_law 1196 = .ok (.ireturn, 1) := by decide +kernel
theorem dL_law_1197 : decode cL_law 1197 = .ok (.iinc 3 6, 3) := by decide +kernel
theorem dL_law_1200 : decode cL_law 1200 = .ok (.goto (-1182), 3) := by decide +kernel
theorem dL_law_1203 : decode cL_law 1203 = .ok (.iconst 1, 1) := by decide +kernel
theorem dL_law_1204 : decode cL_law 1204 = .ok (.ireturn, 1) := by decide +kernel
