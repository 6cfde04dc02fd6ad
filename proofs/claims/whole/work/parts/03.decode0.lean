theorem dX0_init_0 : decode cX0_init 0 = .ok (.aload_n 0, 1) := by decide +kernel
theorem dX0_init_1 : decode cX0_init 1 = .ok (.invokespecial 3, 3) := by decide +kernel
theorem dX0_init_4 : decode cX0_init 4 = .ok (.aload_n 0, 1) := by decide +kernel
theorem dX0_init_5 : decode cX0_init 5 = .ok (.bipush 36, 2) := by decide +kernel
theorem dX0_init_7 : decode cX0_init 7 = .ok (.newarray .long, 2) := by decide +kernel
theorem dX0_init_9 : decode cX0_init 9 = .ok (.putfield 9, 3) := by decide +kernel
theorem dX0_init_12 : decode cX0_init 12 = .ok (.aload_n 0, 1) := by decide +kernel
theorem dX0_init_13 : decode cX0_init 13 = .ok (.bipush 36, 2) := by decide +kernel
theorem dX0_init_15 : decode cX0_init 15 = .ok (.newarray .int, 2) := by decide +kernel
theorem dX0_init_17 : decode cX0_init 17 = .ok (.putfield 15, 3) := by decide +kernel
theorem dX0_init_20 : decode cX0_init 20 = .ok (.aload_n 0, 1) := by decide +kernel
theorem dX0_init_21 : decode cX0_init 21 = .ok (.sipush 576, 3) := by decide +kernel
theorem dX0_init_24 : decode cX0_init 24 = .ok (.newarray .int, 2) := by decide +kernel
theorem dX0_init_26 : decode cX0_init 26 = .ok (.putfield 19, 3) := by decide +kernel
theorem dX0_init_29 : decode cX0_init 29 = .ok (.aload_n 0, 1) := by decide +kernel
theorem dX0_init_30 : decode cX0_init 30 = .ok (.iconst 0, 1) := by decide +kernel
theorem dX0_init_31 : decode cX0_init 31 = .ok (.newarray .int, 2) := by decide +kernel
theorem dX0_init_33 : decode cX0_init 33 = .ok (.putfield 22, 3) := by decide +kernel
theorem dX0_init_36 : decode cX0_init 36 = .ok (.aload_n 0, 1) := by decide +kernel
theorem dX0_init_37 : decode cX0_init 37 = .ok (.bipush 8, 2) := by decide +kernel
theorem dX0_init_39 : decode cX0_init 39 = .ok (.newarray .int, 2) := by decide +kernel
theorem dX0_init_41 : decode cX0_init 41 = .ok (.putfield 25, 3) := by decide +kernel
theorem dX0_init_44 : decode cX0_init 44 = .ok (.aload_n 0, 1) := by decide +kernel
theorem dX0_init_45 : decode cX0_init 45 = .ok (.bipush 8, 2) := by decide +kernel
theorem dX0_init_47 : decode cX0_init 47 = .ok (.newarray .int, 2) := by decide +kernel
theorem dX0_init_49 : decode cX0_init 49 = .ok (.putfield 28, 3) := by decide +kernel
theorem dX0_init_52 : decode cX0_init 52 = .ok (.aload_n 0, 1) := by decide +kernel
theorem dX0_init_53 : decode cX0_init 53 = .ok (.bipush 8, 2) := by decide +kernel
theorem dX0_init_55 : decode cX0_init 55 = .ok (.newarray .int, 2) := by decide +kernel
theorem dX0_init_57 : decode cX0_init 57 = .ok (.putfield 31, 3) := by decide +kernel
theorem dX0_init_60 : decode cX0_init 60 = .ok (.return_, 1) := by decide +kernel
theorem dX0_chosen_0 : decode cX0_chosen 0 = .ok (.iload_n 1, 1) := by decide +kernel
theorem dX0_chosen_1 : decode cX0_chosen 1 = .ok (.ifCond .ne 10, 3) := by decide +kernel
theorem dX0_chosen_4 : decode cX0_chosen 4 = .ok (.aload_n 0, 1) := by decide +kernel
theorem dX0_chosen_5 : decode cX0_chosen 5 = .ok (.getfield 34, 3) := by decide +kernel
theorem dX0_chosen_8 : decode cX0_chosen 8 = .ok (.goto 7, 3) := by decide +kernel
theorem dX0_chosen_11 : decode cX0_chosen 11 = .ok (.aload_n 0, 1) := by decide +kernel
theorem dX0_chosen_12 : decode cX0_chosen 12 = .ok (.getfield 38, 3) := by decide +kernel
theorem dX0_chosen_15 : decode cX0_chosen 15 = .ok (.ireturn, 1) := by decide +kernel
theorem dX0_look_0 : decode cX0_look 0 = .ok (.aload_n 0, 1) := by decide +kernel
theorem dX0_look_1 : decode cX0_look 1 = .ok (.getfield 41, 3) := by decide +kernel
theorem dX0_look_4 : decode cX0_look 4 = .ok (.iload 5, 2) := by decide +kernel
theorem dX0_look_6 : decode cX0_look 6 = .ok (.if_icmp .ne 21, 3) := by decide +kernel
theorem dX0_look_9 : decode cX0_look 9 = .ok (.aload_n 0, 1) := by decide +kernel
theorem dX0_look_10 : decode cX0_look 10 = .ok (.getfield 44, 3) := by decide +kernel
theorem dX0_look_13 : decode cX0_look 13 = .ok (.iload_n 3, 1) := by decide +kernel
theorem dX0_look_14 : decode cX0_look 14 = .ok (.if_icmp .ne 13, 3) := by decide +kernel
theorem dX0_look_17 : decode cX0_look 17 = .ok (.aload_n 0, 1) := by decide +kernel
theorem dX0_look_18 : decode cX0_look 18 = .ok (.getfield 47, 3) := by decide +kernel
theorem dX0_look_21 : decode cX0_look 21 = .ok (.iload 4, 2) := by decide +kernel
theorem dX0_look_23 : decode cX0_look 23 = .ok (.if_icmp .ne 4, 3) := by decide +kernel
theorem dX0_look_26 : decode cX0_look 26 = .ok (.return_, 1) := by decide +kernel
theorem dX0_look_27 : decode cX0_look 27 = .ok (.aload_n 0, 1) := by decide +kernel
theorem dX0_look_28 : decode cX0_look 28 = .ok (.iload 5, 2) := by decide +kernel
theorem dX0_look_30 : decode cX0_look 30 = .ok (.putfield 41, 3) := by decide +kernel
theorem dX0_look_33 : decode cX0_look 33 = .ok (.aload_n 0, 1) := by decide +kernel
theorem dX0_look_34 : decode cX0_look 34 = .ok (.iload_n 3, 1) := by decide +kernel
theorem dX0_look_35 : decode cX0_look 35 = .ok (.putfield 44, 3) := by decide +kernel
theorem dX0_look_38 : decode cX0_look 38 = .ok (.aload_n 0, 1) := by decide +kernel
theorem dX0_look_39 : decode cX0_look 39 = .ok (.iload 4, 2) := by decide +kernel
theorem dX0_look_41 : decode cX0_look 41 = .ok (.putfield 47, 3) := by decide +kernel
theorem dX0_look_44 : decode cX0_look 44 = .ok (.iload 4, 2) := by decide +kernel
theorem dX0_look_46 : decode cX0_look 46 = .ok (.ifCond .ne 11, 3) := by decide +kernel
theorem dX0_look_49 : decode cX0_look 49 = .ok (.aload_n 0, 1) := by decide +kernel
theorem dX0_look_50 : decode cX0_look 50 = .ok (.aload_n 2, 1) := by decide +kernel
theorem dX0_look_51 : decode cX0_look 51 = .ok (.invokevirtual 50, 3) := by decide +kernel
theorem dX0_look_54 : decode cX0_look 54 = .ok (.goto 10, 3) := by decide +kernel
theorem dX0_look_57 : decode cX0_look 57 = .ok (.aload_n 0, 1) := by decide +kernel
theorem dX0_look_58 : decode cX0_look 58 = .ok (.aload_n 2, 1) := by decide +kernel
theorem dX0_look_59 : decode cX0_look 59 = .ok (.iload 4, 2) := by decide +kernel
theorem dX0_look_61 : decode cX0_look 61 = .ok (.invokevirtual 54, 3) := by decide +kernel
theorem dX0_look_64 : decode cX0_look 64 = .ok (.aload_n 0, 1) := by decide +kernel
theorem dX0_look_65 : decode cX0_look 65 = .ok (.getfield 19, 3) := by decide +kernel
theorem dX0_look_68 : decode cX0_look 68 = .ok (.iconst 0, 1) := by decide +kernel
theorem dX0_look_69 : decode cX0_look 69 = .ok (.invokestatic 58, 3) := by decide +kernel
theorem dX0_look_72 : decode cX0_look 72 = .ok (.aload_n 1, 1) := by decide +kernel
theorem dX0_look_73 : decode cX0_look 73 = .ok (.iload_n 3, 1) := by decide +kernel
theorem dX0_look_74 : decode cX0_look 74 = .ok (.invokevirtual 64, 3) := by decide +kernel
theorem dX0_look_77 : decode cX0_look 77 = .ok (.iconst 1, 1) := by decide +kernel
theorem dX0_look_78 : decode cX0_look 78 = .ok (.aload_n 2, 1) := by decide +kernel
theorem dX0_look_79 : decode cX0_look 79 = .ok (.getfield 70, 3) := by decide +kernel
theorem dX0_look_82 : decode cX0_look 82 = .ok (.ishl, 1) := by decide +kernel
theorem dX0_look_83 : decode cX0_look 83 = .ok (.iconst 1, 1) := by decide +kernel
theorem dX0_look_84 : decode cX0_look 84 = .ok (.isub, 1) := by decide +kernel
theorem dX0_look_85 : decode cX0_look 85 = .ok (.istore 6, 2) := by decide +kernel
theorem dX0_look_87 : decode cX0_look 87 = .ok (.iconst 0, 1) := by decide +kernel
theorem dX0_look_88 : decode cX0_look 88 = .ok (.istore 7, 2) := by decide +kernel
theorem dX0_look_90 : decode cX0_look 90 = .ok (.iload 7, 2) := by decide +kernel
theorem dX0_look_92 : decode cX0_look 92 = .ok (.ldc 75, 2) := by decide +kernel
theorem dX0_look_94 : decode cX0_look 94 = .ok (.if_icmp .ge 23, 3) := by decide +kernel
theorem dX0_look_97 : decode cX0_look 97 = .ok (.aload_n 1, 1) := by decide +kernel
theorem dX0_look_98 : decode cX0_look 98 = .ok (.invokevirtual 76, 3) := by decide +kernel
theorem dX0_look_101 : decode cX0_look 101 = .ok (.ifCond .eq 16, 3) := by decide +kernel
theorem dX0_look_104 : decode cX0_look 104 = .ok (.aload_n 0, 1) := by decide +kernel
theorem dX0_look_105 : decode cX0_look 105 = .ok (.aload_n 1, 1) := by decide +kernel
theorem dX0_look_106 : decode cX0_look 106 = .ok (.iload 6, 2) := by decide +kernel
theorem dX0_look_108 : decode cX0_look 108 = .ok (.invokevirtual 80, 3) := by decide +kernel
theorem dX0_look_111 : decode cX0_look 111 = .ok (.iinc 7 1, 3) := by decide +kernel
theorem dX0_look_114 : decode cX0_look 114 = .ok (.goto (-24), 3) := by decide +kernel
theorem dX0_look_117 : decode cX0_look 117 = .ok (.return_, 1) := by decide +kernel
theorem dX0_viewFromHills_0 : decode cX0_viewFromHills 0 = .ok (.aload_n 0, 1) := by decide +kernel
theorem dX0_viewFromHills_1 : decode cX0_viewFromHills 1 = .ok (.aload_n 1, 1) := by decide +kernel
theorem dX0_viewFromHills_2 : decode cX0_viewFromHills 2 = .ok (.getfield 84, 3) := by decide +kernel
theorem dX0_viewFromHills_5 : decode cX0_viewFromHills 5 = .ok (.putfield 87, 3) := by decide +kernel
theorem dX0_viewFromHills_8 : decode cX0_viewFromHills 8 = .ok (.iconst 0, 1) := by decide +kernel
theorem dX0_viewFromHills_9 : decode cX0_viewFromHills 9 = .ok (.istore_n 2, 1) := by decide +kernel
theorem dX0_viewFromHills_10 : decode cX0_viewFromHills 10 = .ok (.iload_n 2, 1) := by decide +kernel
theorem dX0_viewFromHills_11 : decode cX0_viewFromHills 11 = .ok (.aload_n 0, 1) := by decide +kernel
theorem dX0_viewFromHills_12 : decode cX0_viewFromHills 12 = .ok (.getfield 87, 3) := by decide +kernel
theorem dX0_viewFromHills_15 : decode cX0_viewFromHills 15 = .ok (.if_icmp .ge 28, 3) := by decide +kernel
theorem dX0_viewFromHills_18 : decode cX0_viewFromHills 18 = .ok (.aload_n 0, 1) := by decide +kernel
theorem dX0_viewFromHills_19 : decode cX0_viewFromHills 19 = .ok (.getfield 9, 3) := by decide +kernel
theorem dX0_viewFromHills_22 : decode cX0_viewFromHills 22 = .ok (.iload_n 2, 1) := by decide +kernel
theorem dX0_viewFromHills_23 : decode cX0_viewFromHills 23 = .ok (.aload_n 1, 1) := by decide +kernel
theorem dX0_viewFromHills_24 : decode cX0_viewFromHills 24 = .ok (.getfield 90, 3) := by decide +kernel
theorem dX0_viewFromHills_27 : decode cX0_viewFromHills 27 = .ok (.iload_n 2, 1) := by decide +kernel
theorem dX0_viewFromHills_28 : decode cX0_viewFromHills 28 = .ok (.laload, 1) := by decide +kernel
theorem dX0_viewFromHills_29 : decode cX0_viewFromHills 29 = .ok (.lastore, 1) := by decide +kernel
theorem dX0_viewFromHills_30 : decode cX0_viewFromHills 30 = .ok (.aload_n 0, 1) := by decide +kernel
theorem dX0_viewFromHills_31 : decode cX0_viewFromHills 31 = .ok (.getfield 15, 3) := by decide +kernel
theorem dX0_viewFromHills_34 : decode cX0_viewFromHills 34 = .ok (.iload_n 2, 1) := by decide +kernel
theorem dX0_viewFromHills_35 : decode cX0_viewFromHills 35 = .ok (.iload_n 2, 1) := by decide +kernel
theorem dX0_viewFromHills_36 : decode cX0_viewFromHills 36 = .ok (.iastore, 1) := by decide +kernel
theorem dX0_viewFromHills_37 : decode cX0_viewFromHills 37 = .ok (.iinc 2 1, 3) := by decide +kernel
theorem dX0_viewFromHills_40 : decode cX0_viewFromHills 40 = .ok (.goto (-30), 3) := by decide +kernel
theorem dX0_viewFromHills_43 : decode cX0_viewFromHills 43 = .ok (.return_, 1) := by decide +kernel
theorem dX0_viewFromSquares_0 : decode cX0_viewFromSquares 0 = .ok (.aload_n 0, 1) := by decide +kernel
theorem dX0_viewFromSquares_1 : decode cX0_viewFromSquares 1 = .ok (.iconst 0, 1) := by decide +kernel
theorem dX0_viewFromSquares_2 : decode cX0_viewFromSquares 2 = .ok (.putfield 87, 3) := by decide +kernel
theorem dX0_viewFromSquares_5 : decode cX0_viewFromSquares 5 = .ok (.iconst 0, 1) := by decide +kernel
theorem dX0_viewFromSquares_6 : decode cX0_viewFromSquares 6 = .ok (.istore_n 3, 1) := by decide +kernel
theorem dX0_viewFromSquares_7 : decode cX0_viewFromSquares 7 = .ok (.iload_n 3, 1) := by decide +kernel
theorem dX0_viewFromSquares_8 : decode cX0_viewFromSquares 8 = .ok (.bipush 36, 2) := by decide +kernel
theorem dX0_viewFromSquares_10 : decode cX0_viewFromSquares 10 = .ok (.if_icmp .ge 57, 3) := by decide +kernel
theorem dX0_viewFromSquares_13 : decode cX0_viewFromSquares 13 = .ok (.aload_n 1, 1) := by decide +kernel
theorem dX0_viewFromSquares_14 : decode cX0_viewFromSquares 14 = .ok (.invokevirtual 93, 3) := by decide +kernel
theorem dX0_viewFromSquares_17 : decode cX0_viewFromSquares 17 = .ok (.iload_n 3, 1) := by decide +kernel
theorem dX0_viewFromSquares_18 : decode cX0_viewFromSquares 18 = .ok (.lushr, 1) := by decide +kernel
theorem dX0_viewFromSquares_19 : decode cX0_viewFromSquares 19 = .ok (.lconst 1, 1) := by decide +kernel
theorem dX0_viewFromSquares_20 : decode cX0_viewFromSquares 20 = .ok (.land, 1) := by decide +kernel
theorem dX0_viewFromSquares_21 : decode cX0_viewFromSquares 21 = .ok (.lconst 0, 1) := by decide +kernel
theorem dX0_viewFromSquares_22 : decode cX0_viewFromSquares 22 = .ok (.lcmp, 1) := by decide +kernel
theorem dX0_viewFromSquares_23 : decode cX0_viewFromSquares 23 = .ok (.ifCond .eq 38, 3) := by decide +kernel
theorem dX0_viewFromSquares_26 : decode cX0_viewFromSquares 26 = .ok (.aload_n 0, 1) := by decide +kernel
theorem dX0_viewFromSquares_27 : decode cX0_viewFromSquares 27 = .ok (.getfield 9, 3) := by decide +kernel
theorem dX0_viewFromSquares_30 : decode cX0_viewFromSquares 30 = .ok (.aload_n 0, 1) := by decide +kernel
theorem dX0_viewFromSquares_31 : decode cX0_viewFromSquares 31 = .ok (.getfield 87, 3) := by decide +kernel
theorem dX0_viewFromSquares_34 : decode cX0_viewFromSquares 34 = .ok (.aload_n 1, 1) := by decide +kernel
theorem dX0_viewFromSquares_35 : decode cX0_viewFromSquares 35 = .ok (.iload_n 3, 1) := by decide +kernel
theorem dX0_viewFromSquares_36 : decode cX0_viewFromSquares 36 = .ok (.iload_n 2, 1) := by decide +kernel
theorem dX0_viewFromSquares_37 : decode cX0_viewFromSquares 37 = .ok (.invokevirtual 97, 3) := by decide +kernel
theorem dX0_viewFromSquares_40 : decode cX0_viewFromSquares 40 = .ok (.lastore, 1) := by decide +kernel
theorem dX0_viewFromSquares_41 : decode cX0_viewFromSquares 41 = .ok (.aload_n 0, 1) := by decide +kernel
theorem dX0_viewFromSquares_42 : decode cX0_viewFromSquares 42 = .ok (.getfield 15, 3) := by decide +kernel
theorem dX0_viewFromSquares_45 : decode cX0_viewFromSquares 45 = .ok (.aload_n 0, 1) := by decide +kernel
theorem dX0_viewFromSquares_46 : decode cX0_viewFromSquares 46 = .ok (.getfield 87, 3) := by decide +kernel
theorem dX0_viewFromSquares_49 : decode cX0_viewFromSquares 49 = .ok (.iload_n 3, 1) := by decide +kernel
theorem dX0_viewFromSquares_50 : decode cX0_viewFromSquares 50 = .ok (.iastore, 1) := by decide +kernel
theorem dX0_viewFromSquares_51 : decode cX0_viewFromSquares 51 = .ok (.aload_n 0, 1) := by decide +kernel
theorem dX0_viewFromSquares_52 : decode cX0_viewFromSquares 52 = .ok (.dup, 1) := by decide +kernel
theorem dX0_viewFromSquares_53 : decode cX0_viewFromSquares 53 = .ok (.getfield 87, 3) := by decide +kernel
theorem dX0_viewFromSquares_56 : decode cX0_viewFromSquares 56 = .ok (.iconst 1, 1) := by decide +kernel
theorem dX0_viewFromSquares_57 : decode cX0_viewFromSquares 57 = .ok (.iadd, 1) := by decide +kernel
theorem dX0_viewFromSquares_58 : decode cX0_viewFromSquares 58 = .ok (.putfield 87, 3) := by decide +kernel
theorem dX0_viewFromSquares_61 : decode cX0_viewFromSquares 61 = .ok (.iinc 3 1, 3) := by decide +kernel
theorem dX0_viewFromSquares_64 : decode cX0_viewFromSquares 64 = .ok (.goto (-57), 3) := by decide +kernel
theorem dX0_viewFromSquares_67 : decode cX0_viewFromSquares 67 = .ok (.return_, 1) := by decide +kernel
theorem dX0_countViews_0 : decode cX0_countViews 0 = .ok (.aload_n 1, 1) := by decide +kernel
theorem dX0_countViews_1 : decode cX0_countViews 1 = .ok (.getfield 100, 3) := by decide +kernel
theorem dX0_countViews_4 : decode cX0_countViews 4 = .ok (.invokestatic 104, 3) := by decide +kernel
theorem dX0_countViews_7 : decode cX0_countViews 7 = .ok (.istore_n 3, 1) := by decide +kernel
theorem dX0_countViews_8 : decode cX0_countViews 8 = .ok (.iconst 1, 1) := by decide +kernel
theorem dX0_countViews_9 : decode cX0_countViews 9 = .ok (.aload_n 1, 1) := by decide +kernel
theorem dX0_countViews_10 : decode cX0_countViews 10 = .ok (.invokevirtual 110, 3) := by decide +kernel
theorem dX0_countViews_13 : decode cX0_countViews 13 = .ok (.ishl, 1) := by decide +kernel
theorem dX0_countViews_14 : decode cX0_countViews 14 = .ok (.istore 4, 2) := by decide +kernel
theorem dX0_countViews_16 : decode cX0_countViews 16 = .ok (.iconst 0, 1) := by decide +kernel
theorem dX0_countViews_17 : decode cX0_countViews 17 = .ok (.istore 5, 2) := by decide +kernel
theorem dX0_countViews_19 : decode cX0_countViews 19 = .ok (.iload 5, 2) := by decide +kernel
theorem dX0_countViews_21 : decode cX0_countViews 21 = .ok (.aload_n 0, 1) := by decide +kernel
theorem dX0_countViews_22 : decode cX0_countViews 22 = .ok (.getfield 87, 3) := by decide +kernel
theorem dX0_countViews_25 : decode cX0_countViews 25 = .ok (.if_icmp .ge 86, 3) := by decide +kernel
theorem dX0_countViews_28 : decode cX0_countViews 28 = .ok (.aload_n 1, 1) := by decide +kernel
theorem dX0_countViews_29 : decode cX0_countViews 29 = .ok (.getfield 100, 3) := by decide +kernel
theorem dX0_countViews_32 : decode cX0_countViews 32 = .ok (.aload_n 0, 1) := by decide +kernel
theorem dX0_countViews_33 : decode cX0_countViews 33 = .ok (.getfield 9, 3) := by decide +kernel
theorem dX0_countViews_36 : decode cX0_countViews 36 = .ok (.iload 5, 2) := by decide +kernel
theorem dX0_countViews_38 : decode cX0_countViews 38 = .ok (.laload, 1) := by decide +kernel
theorem dX0_countViews_39 : decode cX0_countViews 39 = .ok (.land, 1) := by decide +kernel
theorem dX0_countViews_40 : decode cX0_countViews 40 = .ok (.invokestatic 104, 3) := by decide +kernel
theorem dX0_countViews_43 : decode cX0_countViews 43 = .ok (.istore 6, 2) := by decide +kernel
theorem dX0_countViews_45 : decode cX0_countViews 45 = .ok (.iload_n 2, 1) := by decide +kernel
theorem dX0_countViews_46 : decode cX0_countViews 46 = .ok (.aload_n 1, 1) := by decide +kernel
theorem dX0_countViews_47 : decode cX0_countViews 47 = .ok (.aload_n 0, 1) := by decide +kernel
theorem dX0_countViews_48 : decode cX0_countViews 48 = .ok (.getfield 9, 3) := by decide +kernel
theorem dX0_countViews_51 : decode cX0_countViews 51 = .ok (.iload 5, 2) := by decide +kernel
theorem dX0_countViews_53 : decode cX0_countViews 53 = .ok (.laload, 1) := by decide +kernel
theorem dX0_countViews_54 : decode cX0_countViews 54 = .ok (.invokevirtual 114, 3) := by decide +kernel
theorem dX0_countViews_57 : decode cX0_countViews 57 = .ok (.iconst (-1), 1) := by decide +kernel
theorem dX0_countViews_58 : decode cX0_countViews 58 = .ok (.ixor, 1) := by decide +kernel
theorem dX0_countViews_59 : decode cX0_countViews 59 = .ok (.iand, 1) := by decide +kernel
theorem dX0_countViews_60 : decode cX0_countViews 60 = .ok (.istore 7, 2) := by decide +kernel
theorem dX0_countViews_62 : decode cX0_countViews 62 = .ok (.aload_n 0, 1) := by decide +kernel
theorem dX0_countViews_63 : decode cX0_countViews 63 = .ok (.getfield 19, 3) := by decide +kernel
theorem dX0_countViews_66 : decode cX0_countViews 66 = .ok (.iload 5, 2) := by decide +kernel
theorem dX0_countViews_68 : decode cX0_countViews 68 = .ok (.bipush 16, 2) := by decide +kernel
theorem dX0_countViews_70 : decode cX0_countViews 70 = .ok (.imul, 1) := by decide +kernel
theorem dX0_countViews_71 : decode cX0_countViews 71 = .ok (.iload 7, 2) := by decide +kernel
theorem dX0_countViews_73 : decode cX0_countViews 73 = .ok (.iadd, 1) := by decide +kernel
theorem dX0_countViews_74 : decode cX0_countViews 74 = .ok (.dup2, 1) := by decide +kernel
theorem dX0_countViews_75 : decode cX0_countViews 75 = .ok (.iaload, 1) := by decide +kernel
theorem dX0_countViews_76 : decode cX0_countViews 76 = .ok (.iload_n 3, 1) := by decide +kernel
theorem dX0_countViews_77 : decode cX0_countViews 77 = .ok (.iload 6, 2) := by decide +kernel
theorem dX0_countViews_79 : decode cX0_countViews 79 = .ok (.isub, 1) := by decide +kernel
theorem dX0_countViews_80 : decode cX0_countViews 80 = .ok (.iadd, 1) := by decide +kernel
theorem dX0_countViews_81 : decode cX0_countViews 81 = .ok (.iastore, 1) := by decide +kernel
theorem dX0_countViews_82 : decode cX0_countViews 82 = .ok (.aload_n 0, 1) := by decide +kernel
theorem dX0_countViews_83 : decode cX0_countViews 83 = .ok (.getfield 19, 3) := by decide +kernel
theorem dX0_countViews_86 : decode cX0_countViews 86 = .ok (.iload 5, 2) := by decide +kernel
theorem dX0_countViews_88 : decode cX0_countViews 88 = .ok (.bipush 16, 2) := by decide +kernel
theorem dX0_countViews_90 : decode cX0_countViews 90 = .ok (.imul, 1) := by decide +kernel
theorem dX0_countViews_91 : decode cX0_countViews 91 = .ok (.iload 7, 2) := by decide +kernel
theorem dX0_countViews_93 : decode cX0_countViews 93 = .ok (.iload 4, 2) := by decide +kernel
theorem dX0_countViews_95 : decode cX0_countViews 95 = .ok (.iconst (-1), 1) := by decide +kernel
theorem dX0_countViews_96 : decode cX0_countViews 96 = .ok (.ixor, 1) := by decide +kernel
theorem dX0_countViews_97 : decode cX0_countViews 97 = .ok (.iand, 1) := by decide +kernel
theorem dX0_countViews_98 : decode cX0_countViews 98 = .ok (.iadd, 1) := by decide +kernel
theorem dX0_countViews_99 : decode cX0_countViews 99 = .ok (.dup2, 1) := by decide +kernel
theorem dX0_countViews_100 : decode cX0_countViews 100 = .ok (.iaload, 1) := by decide +kernel
theorem dX0_countViews_101 : decode cX0_countViews 101 = .ok (.iload 6, 2) := by decide +kernel
theorem dX0_countViews_103 : decode cX0_countViews 103 = .ok (.iadd, 1) := by decide +kernel
theorem dX0_countViews_104 : decode cX0_countViews 104 = .ok (.iastore, 1) := by decide +kernel
theorem dX0_countViews_105 : decode cX0_countViews 105 = .ok (.iinc 5 1, 3) := by decide +kernel
theorem dX0_countViews_108 : decode cX0_countViews 108 = .ok (.goto (-89), 3) := by decide +kernel
theorem dX0_countViews_111 : decode cX0_countViews 111 = .ok (.return_, 1) := by decide +kernel
theorem dX0_greatest_0 : decode cX0_greatest 0 = .ok (.iconst 0, 1) := by decide +kernel
theorem dX0_greatest_1 : decode cX0_greatest 1 = .ok (.istore_n 2, 1) := by decide +kernel
theorem dX0_greatest_2 : decode cX0_greatest 2 = .ok (.iconst 0, 1) := by decide +kernel
theorem dX0_greatest_3 : decode cX0_greatest 3 = .ok (.istore_n 3, 1) := by decide +kernel
theorem dX0_greatest_4 : decode cX0_greatest 4 = .ok (.iload_n 3, 1) := by decide +kernel
theorem dX0_greatest_5 : decode cX0_greatest 5 = .ok (.bipush 16, 2) := by decide +kernel
theorem dX0_greatest_7 : decode cX0_greatest 7 = .ok (.if_icmp .ge 25, 3) := by decide +kernel
theorem dX0_greatest_10 : decode cX0_greatest 10 = .ok (.iload_n 2, 1) := by decide +kernel
theorem dX0_greatest_11 : decode cX0_greatest 11 = .ok (.aload_n 0, 1) := by decide +kernel
theorem dX0_greatest_12 : decode cX0_greatest 12 = .ok (.getfield 19, 3) := by decide +kernel
theorem dX0_greatest_15 : decode cX0_greatest 15 = .ok (.iload_n 1, 1) := by decide +kernel
theorem dX0_greatest_16 : decode cX0_greatest 16 = .ok (.bipush 16, 2) := by decide +kernel
theorem dX0_greatest_18 : decode cX0_greatest 18 = .ok (.imul, 1) := by decide +kernel
theorem dX0_greatest_19 : decode cX0_greatest 19 = .ok (.iload_n 3, 1) := by decide +kernel
theorem dX0_greatest_20 : decode cX0_greatest 20 = .ok (.iadd, 1) := by decide +kernel
theorem dX0_greatest_21 : decode cX0_greatest 21 = .ok (.iaload, 1) := by decide +kernel
theorem dX0_greatest_22 : decode cX0_greatest 22 = .ok (.invokestatic 117, 3) := by decide +kernel
theorem dX0_greatest_25 : decode cX0_greatest 25 = .ok (.istore_n 2, 1) := by decide +kernel
theorem dX0_greatest_26 : decode cX0_greatest 26 = .ok (.iinc 3 1, 3) := by decide +kernel
theorem dX0_greatest_29 : decode cX0_greatest 29 = .ok (.goto (-25), 3) := by decide +kernel
theorem dX0_greatest_32 : decode cX0_greatest 32 = .ok (.iload_n 2, 1) := by decide +kernel
theorem dX0_greatest_33 : decode cX0_greatest 33 = .ok (.ireturn, 1) := by decide +kernel
theorem dX0_chooseView_0 : decode cX0_chooseView 0 = .ok (.aload_n 0, 1) := by decide +kernel
theorem dX0_chooseView_1 : decode cX0_chooseView 1 = .ok (.invokevirtual 123, 3) := by decide +kernel
theorem dX0_chooseView_4 : decode cX0_chooseView 4 = .ok (.iconst 0, 1) := by decide +kernel
theorem dX0_chooseView_5 : decode cX0_chooseView 5 = .ok (.istore_n 1, 1) := by decide +kernel
theorem dX0_chooseView_6 : decode cX0_chooseView 6 = .ok (.iload_n 1, 1) := by decide +kernel
theorem dX0_chooseView_7 : decode cX0_chooseView 7 = .ok (.aload_n 0, 1) := by decide +kernel
theorem dX0_chooseView_8 : decode cX0_chooseView 8 = .ok (.getfield 87, 3) := by decide +kernel
theorem dX0_chooseView_11 : decode cX0_chooseView 11 = .ok (.if_icmp .ge 24, 3) := by decide +kernel
theorem dX0_chooseView_14 : decode cX0_chooseView 14 = .ok (.aload_n 0, 1) := by decide +kernel
theorem dX0_chooseView_15 : decode cX0_chooseView 15 = .ok (.aload_n 0, 1) := by decide +kernel
theorem dX0_chooseView_16 : decode cX0_chooseView 16 = .ok (.getfield 15, 3) := by decide +kernel
theorem dX0_chooseView_19 : decode cX0_chooseView 19 = .ok (.iload_n 1, 1) := by decide +kernel
theorem dX0_chooseView_20 : decode cX0_chooseView 20 = .ok (.iaload, 1) := by decide +kernel
theorem dX0_chooseView_21 : decode cX0_chooseView 21 = .ok (.aload_n 0, 1) := by decide +kernel
theorem dX0_chooseView_22 : decode cX0_chooseView 22 = .ok (.iload_n 1, 1) := by decide +kernel
theorem dX0_chooseView_23 : decode cX0_chooseView 23 = .ok (.invokevirtual 126, 3) := by decide +kernel
theorem dX0_chooseView_26 : decode cX0_chooseView 26 = .ok (.invokevirtual 130, 3) := by decide +kernel
theorem dX0_chooseView_29 : decode cX0_chooseView 29 = .ok (.iinc 1 1, 3) := by decide +kernel
theorem dX0_chooseView_32 : decode cX0_chooseView 32 = .ok (.goto (-26), 3) := by decide +kernel
theorem dX0_chooseView_35 : decode cX0_chooseView 35 = .ok (.return_, 1) := by decide +kernel
theorem dX0_forget_0 : decode cX0_forget 0 = .ok (.aload_n 0, 1) := by decide +kernel
theorem dX0_forget_1 : decode cX0_forget 1 = .ok (.iconst (-1), 1) := by decide +kernel
theorem dX0_forget_2 : decode cX0_forget 2 = .ok (.putfield 34, 3) := by decide +kernel
theorem dX0_forget_5 : decode cX0_forget 5 = .ok (.aload_n 0, 1) := by decide +kernel
theorem dX0_forget_6 : decode cX0_forget 6 = .ok (.iconst 0, 1) := by decide +kernel
theorem dX0_forget_7 : decode cX0_forget 7 = .ok (.putfield 38, 3) := by decide +kernel
theorem dX0_forget_10 : decode cX0_forget 10 = .ok (.return_, 1) := by decide +kernel
theorem dX0_choose_0 : decode cX0_choose 0 = .ok (.aload_n 0, 1) := by decide +kernel
theorem dX0_choose_1 : decode cX0_choose 1 = .ok (.getfield 34, 3) := by decide +kernel
theorem dX0_choose_4 : decode cX0_choose 4 = .ok (.iconst (-1), 1) := by decide +kernel
theorem dX0_choose_5 : decode cX0_choose 5 = .ok (.if_icmp .eq 11, 3) := by decide +kernel
theorem dX0_choose_8 : decode cX0_choose 8 = .ok (.iload_n 2, 1) := by decide +kernel
theorem dX0_choose_9 : decode cX0_choose 9 = .ok (.aload_n 0, 1) := by decide +kernel
theorem dX0_choose_10 : decode cX0_choose 10 = .ok (.getfield 38, 3) := by decide +kernel
theorem dX0_choose_13 : decode cX0_choose 13 = .ok (.if_icmp .ge 13, 3) := by decide +kernel
theorem dX0_choose_16 : decode cX0_choose 16 = .ok (.aload_n 0, 1) := by decide +kernel
theorem dX0_choose_17 : decode cX0_choose 17 = .ok (.iload_n 1, 1) := by decide +kernel
theorem dX0_choose_18 : decode cX0_choose 18 = .ok (.putfield 34, 3) := by decide +kernel
theorem dX0_choose_21 : decode cX0_choose 21 = .ok (.aload_n 0, 1) := by decide +kernel
theorem dX0_choose_22 : decode cX0_choose 22 = .ok (.iload_n 2, 1) := by decide +kernel
theorem dX0_choose_23 : decode cX0_choose 23 = .ok (.putfield 38, 3) := by decide +kernel
theorem dX0_choose_26 : decode cX0_choose 26 = .ok (.return_, 1) := by decide +kernel
theorem dX0_lookTwice_0 : decode cX0_lookTwice 0 = .ok (.aload_n 0, 1) := by decide +kernel
theorem dX0_lookTwice_1 : decode cX0_lookTwice 1 = .ok (.getfield 134, 3) := by decide +kernel
theorem dX0_lookTwice_4 : decode cX0_lookTwice 4 = .ok (.iload 4, 2) := by decide +kernel
theorem dX0_lookTwice_6 : decode cX0_lookTwice 6 = .ok (.if_icmp .ne 12, 3) := by decide +kernel
theorem dX0_lookTwice_9 : decode cX0_lookTwice 9 = .ok (.aload_n 0, 1) := by decide +kernel
theorem dX0_lookTwice_10 : decode cX0_lookTwice 10 = .ok (.getfield 137, 3) := by decide +kernel
theorem dX0_lookTwice_13 : decode cX0_lookTwice 13 = .ok (.iload_n 3, 1) := by decide +kernel
theorem dX0_lookTwice_14 : decode cX0_lookTwice 14 = .ok (.if_icmp .ne 4, 3) := by decide +kernel
theorem dX0_lookTwice_17 : decode cX0_lookTwice 17 = .ok (.return_, 1) := by decide +kernel
theorem dX0_lookTwice_18 : decode cX0_lookTwice 18 = .ok (.aload_n 0, 1) := by decide +kernel
theorem dX0_lookTwice_19 : decode cX0_lookTwice 19 = .ok (.iload 4, 2) := by decide +kernel
theorem dX0_lookTwice_21 : decode cX0_lookTwice 21 = .ok (.putfield 134, 3) := by decide +kernel
theorem dX0_lookTwice_24 : decode cX0_lookTwice 24 = .ok (.aload_n 0, 1) := by decide +kernel
theorem dX0_lookTwice_25 : decode cX0_lookTwice 25 = .ok (.iload_n 3, 1) := by decide +kernel
theorem dX0_lookTwice_26 : decode cX0_lookTwice 26 = .ok (.putfield 137, 3) := by decide +kernel
theorem dX0_lookTwice_29 : decode cX0_lookTwice 29 = .ok (.aload_n 0, 1) := by decide +kernel
theorem dX0_lookTwice_30 : decode cX0_lookTwice 30 = .ok (.aload_n 2, 1) := by decide +kernel
theorem dX0_lookTwice_31 : decode cX0_lookTwice 31 = .ok (.getfield 84, 3) := by decide +kernel
theorem dX0_lookTwice_34 : decode cX0_lookTwice 34 = .ok (.putfield 140, 3) := by decide +kernel
theorem dX0_lookTwice_37 : decode cX0_lookTwice 37 = .ok (.aload_n 0, 1) := by decide +kernel
theorem dX0_lookTwice_38 : decode cX0_lookTwice 38 = .ok (.getfield 22, 3) := by decide +kernel
theorem dX0_lookTwice_41 : decode cX0_lookTwice 41 = .ok (.arraylength, 1) := by decide +kernel
theorem dX0_lookTwice_42 : decode cX0_lookTwice 42 = .ok (.ifCond .ne 12, 3) := by decide +kernel
theorem dX0_lookTwice_45 : decode cX0_lookTwice 45 = .ok (.aload_n 0, 1) := by decide +kernel
theorem dX0_lookTwice_46 : decode cX0_lookTwice 46 = .ok (.sipush 9216, 3) := by decide +kernel
theorem dX0_lookTwice_49 : decode cX0_lookTwice 49 = .ok (.newarray .int, 2) := by decide +kernel
theorem dX0_lookTwice_51 : decode cX0_lookTwice 51 = .ok (.putfield 22, 3) := by decide +kernel
theorem dX0_lookTwice_54 : decode cX0_lookTwice 54 = .ok (.aload_n 0, 1) := by decide +kernel
theorem dX0_lookTwice_55 : decode cX0_lookTwice 55 = .ok (.getfield 22, 3) := by decide +kernel
theorem dX0_lookTwice_58 : decode cX0_lookTwice 58 = .ok (.iconst 0, 1) := by decide +kernel
theorem dX0_lookTwice_59 : decode cX0_lookTwice 59 = .ok (.invokestatic 58, 3) := by decide +kernel
theorem dX0_lookTwice_62 : decode cX0_lookTwice 62 = .ok (.iconst 1, 1) := by decide +kernel
theorem dX0_lookTwice_63 : decode cX0_lookTwice 63 = .ok (.aload_n 2, 1) := by decide +kernel
theorem dX0_lookTwice_64 : decode cX0_lookTwice 64 = .ok (.getfield 70, 3) := by decide +kernel
theorem dX0_lookTwice_67 : decode cX0_lookTwice 67 = .ok (.ishl, 1) := by decide +kernel
theorem dX0_lookTwice_68 : decode cX0_lookTwice 68 = .ok (.iconst 1, 1) := by decide +kernel
theorem dX0_lookTwice_69 : decode cX0_lookTwice 69 = .ok (.isub, 1) := by decide +kernel
theorem dX0_lookTwice_70 : decode cX0_lookTwice 70 = .ok (.istore 5, 2) := by decide +kernel
theorem dX0_lookTwice_72 : decode cX0_lookTwice 72 = .ok (.aload_n 1, 1) := by decide +kernel
theorem dX0_lookTwice_73 : decode cX0_lookTwice 73 = .ok (.iload_n 3, 1) := by decide +kernel
theorem dX0_lookTwice_74 : decode cX0_lookTwice 74 = .ok (.invokevirtual 64, 3) := by decide +kernel
theorem dX0_lookTwice_77 : decode cX0_lookTwice 77 = .ok (.iconst 0, 1) := by decide +kernel
theorem dX0_lookTwice_78 : decode cX0_lookTwice 78 = .ok (.istore 6, 2) := by decide +kernel
theorem dX0_lookTwice_80 : decode cX0_lookTwice 80 = .ok (.iload 6, 2) := by decide +kernel
theorem dX0_lookTwice_82 : decode cX0_lookTwice 82 = .ok (.ldc 75, 2) := by decide +kernel
theorem dX0_lookTwice_84 : decode cX0_lookTwice 84 = .ok (.if_icmp .ge 24, 3) := by decide +kernel
theorem dX0_lookTwice_87 : decode cX0_lookTwice 87 = .ok (.aload_n 1, 1) := by decide +kernel
theorem dX0_lookTwice_88 : decode cX0_lookTwice 88 = .ok (.invokevirtual 76, 3) := by decide +kernel
theorem dX0_lookTwice_91 : decode cX0_lookTwice 91 = .ok (.ifCond .eq 17, 3) := by decide +kernel
theorem dX0_lookTwice_94 : decode cX0_lookTwice 94 = .ok (.aload_n 0, 1) := by decide +kernel
theorem dX0_lookTwice_95 : decode cX0_lookTwice 95 = .ok (.aload_n 1, 1) := by decide +kernel
theorem dX0_lookTwice_96 : decode cX0_lookTwice 96 = .ok (.aload_n 2, 1) := by decide +kernel
theorem dX0_lookTwice_97 : decode cX0_lookTwice 97 = .ok (.iload 5, 2) := by decide +kernel
theorem dX0_lookTwice_99 : decode cX0_lookTwice 99 = .ok (.invokevirtual 141, 3) := by decide +kernel
theorem dX0_lookTwice_102 : decode cX0_lookTwice 102 = .ok (.iinc 6 1, 3) := by decide +kernel
theorem dX0_lookTwice_105 : decode cX0_lookTwice 105 = .ok (.goto (-25), 3) := by decide +kernel
theorem dX0_lookTwice_108 : decode cX0_lookTwice 108 = .ok (.return_, 1) := by decide +kernel
theorem dX0_countPairs_0 : decode cX0_countPairs 0 = .ok (.aload_n 1, 1) := by decide +kernel
theorem dX0_countPairs_1 : decode cX0_countPairs 1 = .ok (.getfield 100, 3) := by decide +kernel
theorem dX0_countPairs_4 : decode cX0_countPairs 4 = .ok (.invokestatic 104, 3) := by decide +kernel
theorem dX0_countPairs_7 : decode cX0_countPairs 7 = .ok (.istore 4, 2) := by decide +kernel
theorem dX0_countPairs_9 : decode cX0_countPairs 9 = .ok (.iconst 1, 1) := by decide +kernel
theorem dX0_countPairs_10 : decode cX0_countPairs 10 = .ok (.aload_n 1, 1) := by decide +kernel
theorem dX0_countPairs_11 : decode cX0_countPairs 11 = .ok (.invokevirtual 110, 3) := by decide +kernel
theorem dX0_countPairs_14 : decode cX0_countPairs 14 = .ok (.ishl, 1) := by decide +kernel
theorem dX0_countPairs_15 : decode cX0_countPairs 15 = .ok (.istore 5, 2) := by decide +kernel
theorem dX0_countPairs_17 : decode cX0_countPairs 17 = .ok (.iconst 0, 1) := by decide +kernel
theorem dX0_countPairs_18 : decode cX0_countPairs 18 = .ok (.istore 6, 2) := by decide +kernel
theorem dX0_countPairs_20 : decode cX0_countPairs 20 = .ok (.iload 6, 2) := by decide +kernel
theorem dX0_countPairs_22 : decode cX0_countPairs 22 = .ok (.aload_n 0, 1) := by decide +kernel
theorem dX0_countPairs_23 : decode cX0_countPairs 23 = .ok (.getfield 140, 3) := by decide +kernel
theorem dX0_countPairs_26 : decode cX0_countPairs 26 = .ok (.if_icmp .ge 72, 3) := by decide +kernel
theorem dX0_countPairs_29 : decode cX0_countPairs 29 = .ok (.aload_n 0, 1) := by decide +kernel
theorem dX0_countPairs_30 : decode cX0_countPairs 30 = .ok (.getfield 25, 3) := by decide +kernel
theorem dX0_countPairs_33 : decode cX0_countPairs 33 = .ok (.iload 6, 2) := by decide +kernel
theorem dX0_countPairs_35 : decode cX0_countPairs 35 = .ok (.iload_n 3, 1) := by decide +kernel
theorem dX0_countPairs_36 : decode cX0_countPairs 36 = .ok (.aload_n 1, 1) := by decide +kernel
theorem dX0_countPairs_37 : decode cX0_countPairs 37 = .ok (.aload_n 2, 1) := by decide +kernel
theorem dX0_countPairs_38 : decode cX0_countPairs 38 = .ok (.getfield 90, 3) := by decide +kernel
theorem dX0_countPairs_41 : decode cX0_countPairs 41 = .ok (.iload 6, 2) := by decide +kernel
theorem dX0_countPairs_43 : decode cX0_countPairs 43 = .ok (.laload, 1) := by decide +kernel
theorem dX0_countPairs_44 : decode cX0_countPairs 44 = .ok (.invokevirtual 114, 3) := by decide +kernel
theorem dX0_countPairs_47 : decode cX0_countPairs 47 = .ok (.iconst (-1), 1) := by decide +kernel
theorem dX0_countPairs_48 : decode cX0_countPairs 48 = .ok (.ixor, 1) := by decide +kernel
theorem dX0_countPairs_49 : decode cX0_countPairs 49 = .ok (.iand, 1) := by decide +kernel
theorem dX0_countPairs_50 : decode cX0_countPairs 50 = .ok (.iastore, 1) := by decide +kernel
theorem dX0_countPairs_51 : decode cX0_countPairs 51 = .ok (.aload_n 0, 1) := by decide +kernel
theorem dX0_countPairs_52 : decode cX0_countPairs 52 = .ok (.getfield 28, 3) := by decide +kernel
theorem dX0_countPairs_55 : decode cX0_countPairs 55 = .ok (.iload 6, 2) := by decide +kernel
theorem dX0_countPairs_57 : decode cX0_countPairs 57 = .ok (.aload_n 0, 1) := by decide +kernel
theorem dX0_countPairs_58 : decode cX0_countPairs 58 = .ok (.getfield 25, 3) := by decide +kernel
theorem dX0_countPairs_61 : decode cX0_countPairs 61 = .ok (.iload 6, 2) := by decide +kernel
theorem dX0_countPairs_63 : decode cX0_countPairs 63 = .ok (.iaload, 1) := by decide +kernel
theorem dX0_countPairs_64 : decode cX0_countPairs 64 = .ok (.iload 5, 2) := by decide +kernel
theorem dX0_countPairs_66 : decode cX0_countPairs 66 = .ok (.iconst (-1), 1) := by decide +kernel
theorem dX0_countPairs_67 : decode cX0_countPairs 67 = .ok (.ixor, 1) := by decide +kernel
theorem dX0_countPairs_68 : decode cX0_countPairs 68 = .ok (.iand, 1) := by decide +kernel
theorem dX0_countPairs_69 : decode cX0_countPairs 69 = .ok (.iastore, 1) := by decide +kernel
theorem dX0_countPairs_70 : decode cX0_countPairs 70 = .ok (.aload_n 0, 1) := by decide +kernel
theorem dX0_countPairs_71 : decode cX0_countPairs 71 = .ok (.getfield 31, 3) := by decide +kernel
theorem dX0_countPairs_74 : decode cX0_countPairs 74 = .ok (.iload 6, 2) := by decide +kernel
theorem dX0_countPairs_76 : decode cX0_countPairs 76 = .ok (.aload_n 1, 1) := by decide +kernel
theorem dX0_countPairs_77 : decode cX0_countPairs 77 = .ok (.getfield 100, 3) := by decide +kernel
theorem dX0_countPairs_80 : decode cX0_countPairs 80 = .ok (.aload_n 2, 1) := by decide +kernel
theorem dX0_countPairs_81 : decode cX0_countPairs 81 = .ok (.getfield 90, 3) := by decide +kernel
theorem dX0_countPairs_84 : decode cX0_countPairs 84 = .ok (.iload 6, 2) := by decide +kernel
theorem dX0_countPairs_86 : decode cX0_countPairs 86 = .ok (.laload, 1) := by decide +kernel
theorem dX0_countPairs_87 : decode cX0_countPairs 87 = .ok (.land, 1) := by decide +kernel
theorem dX0_countPairs_88 : decode cX0_countPairs 88 = .ok (.invokestatic 104, 3) := by decide +kernel
theorem dX0_countPairs_91 : decode cX0_countPairs 91 = .ok (.iastore, 1) := by decide +kernel
theorem dX0_countPairs_92 : decode cX0_countPairs 92 = .ok (.iinc 6 1, 3) := by decide +kernel
theorem dX0_countPairs_95 : decode cX0_countPairs 95 = .ok (.goto (-75), 3) := by decide +kernel
theorem dX0_countPairs_98 : decode cX0_countPairs 98 = .ok (.iconst 0, 1) := by decide +kernel
theorem dX0_countPairs_99 : decode cX0_countPairs 99 = .ok (.istore 6, 2) := by decide +kernel
theorem dX0_countPairs_101 : decode cX0_countPairs 101 = .ok (.iload 6, 2) := by decide +kernel
theorem dX0_countPairs_103 : decode cX0_countPairs 103 = .ok (.aload_n 0, 1) := by decide +kernel
theorem dX0_countPairs_104 : decode cX0_countPairs 104 = .ok (.getfield 140, 3) := by decide +kernel
theorem dX0_countPairs_107 : decode cX0_countPairs 107 = .ok (.if_icmp .ge 212, 3) := by decide +kernel
theorem dX0_countPairs_110 : decode cX0_countPairs 110 = .ok (.iload 6, 2) := by decide +kernel
theorem dX0_countPairs_112 : decode cX0_countPairs 112 = .ok (.istore 7, 2) := by decide +kernel
theorem dX0_countPairs_114 : decode cX0_countPairs 114 = .ok (.iload 7, 2) := by decide +kernel
theorem dX0_countPairs_116 : decode cX0_countPairs 116 = .ok (.aload_n 0, 1) := by decide +kernel
theorem dX0_countPairs_117 : decode cX0_countPairs 117 = .ok (.getfield 140, 3) := by decide +kernel
theorem dX0_countPairs_120 : decode cX0_countPairs 120 = .ok (.if_icmp .ge 193, 3) := by decide +kernel
theorem dX0_countPairs_123 : decode cX0_countPairs 123 = .ok (.aload_n 1, 1) := by decide +kernel
theorem dX0_countPairs_124 : decode cX0_countPairs 124 = .ok (.getfield 100, 3) := by decide +kernel
theorem dX0_countPairs_127 : decode cX0_countPairs 127 = .ok (.aload_n 2, 1) := by decide +kernel
theorem dX0_countPairs_128 : decode cX0_countPairs 128 = .ok (.getfield 90, 3) := by decide +kernel
theorem dX0_countPairs_131 : decode cX0_countPairs 131 = .ok (.iload 6, 2) := by decide +kernel
theorem dX0_countPairs_133 : decode cX0_countPairs 133 = .ok (.laload, 1) := by decide +kernel
theorem dX0_countPairs_134 : decode cX0_countPairs 134 = .ok (.land, 1) := by decide +kernel
theorem dX0_countPairs_135 : decode cX0_countPairs 135 = .ok (.aload_n 2, 1) := by decide +kernel
theorem dX0_countPairs_136 : decode cX0_countPairs 136 = .ok (.getfield 90, 3) := by decide +kernel
theorem dX0_countPairs_139 : decode cX0_countPairs 139 = .ok (.iload 7, 2) := by decide +kernel
theorem dX0_countPairs_141 : decode cX0_countPairs 141 = .ok (.laload, 1) := by decide +kernel
theorem dX0_countPairs_142 : decode cX0_countPairs 142 = .ok (.land, 1) := by decide +kernel
theorem dX0_countPairs_143 : decode cX0_countPairs 143 = .ok (.invokestatic 104, 3) := by decide +kernel
theorem dX0_countPairs_146 : decode cX0_countPairs 146 = .ok (.istore 8, 2) := by decide +kernel
theorem dX0_countPairs_148 : decode cX0_countPairs 148 = .ok (.aload_n 0, 1) := by decide +kernel
theorem dX0_countPairs_149 : decode cX0_countPairs 149 = .ok (.getfield 22, 3) := by decide +kernel
theorem dX0_countPairs_152 : decode cX0_countPairs 152 = .ok (.iload 6, 2) := by decide +kernel
theorem dX0_countPairs_154 : decode cX0_countPairs 154 = .ok (.iload 7, 2) := by decide +kernel
theorem dX0_countPairs_156 : decode cX0_countPairs 156 = .ok (.aload_n 0, 1) := by decide +kernel
theorem dX0_countPairs_157 : decode cX0_countPairs 157 = .ok (.getfield 28, 3) := by decide +kernel
theorem dX0_countPairs_160 : decode cX0_countPairs 160 = .ok (.iload 6, 2) := by decide +kernel
theorem dX0_countPairs_162 : decode cX0_countPairs 162 = .ok (.iaload, 1) := by decide +kernel
theorem dX0_countPairs_163 : decode cX0_countPairs 163 = .ok (.aload_n 0, 1) := by decide +kernel
theorem dX0_countPairs_164 : decode cX0_countPairs 164 = .ok (.getfield 28, 3) := by decide +kernel
theorem dX0_countPairs_167 : decode cX0_countPairs 167 = .ok (.iload 7, 2) := by decide +kernel
theorem dX0_countPairs_169 : decode cX0_countPairs 169 = .ok (.iaload, 1) := by decide +kernel
theorem dX0_countPairs_170 : decode cX0_countPairs 170 = .ok (.invokestatic 145, 3) := by decide +kernel
theorem dX0_countPairs_173 : decode cX0_countPairs 173 = .ok (.dup2, 1) := by decide +kernel
theorem dX0_countPairs_174 : decode cX0_countPairs 174 = .ok (.iaload, 1) := by decide +kernel
theorem dX0_countPairs_175 : decode cX0_countPairs 175 = .ok (.iload 8, 2) := by decide +kernel
theorem dX0_countPairs_177 : decode cX0_countPairs 177 = .ok (.iadd, 1) := by decide +kernel
theorem dX0_countPairs_178 : decode cX0_countPairs 178 = .ok (.iastore, 1) := by decide +kernel
theorem dX0_countPairs_179 : decode cX0_countPairs 179 = .ok (.aload_n 0, 1) := by decide +kernel
theorem dX0_countPairs_180 : decode cX0_countPairs 180 = .ok (.getfield 22, 3) := by decide +kernel
theorem dX0_countPairs_183 : decode cX0_countPairs 183 = .ok (.iload 6, 2) := by decide +kernel
theorem dX0_countPairs_185 : decode cX0_countPairs 185 = .ok (.iload 7, 2) := by decide +kernel
theorem dX0_countPairs_187 : decode cX0_countPairs 187 = .ok (.aload_n 0, 1) := by decide +kernel
theorem dX0_countPairs_188 : decode cX0_countPairs 188 = .ok (.getfield 28, 3) := by decide +kernel
theorem dX0_countPairs_191 : decode cX0_countPairs 191 = .ok (.iload 6, 2) := by decide +kernel
theorem dX0_countPairs_193 : decode cX0_countPairs 193 = .ok (.iaload, 1) := by decide +kernel
theorem dX0_countPairs_194 : decode cX0_countPairs 194 = .ok (.aload_n 0, 1) := by decide +kernel
theorem dX0_countPairs_195 : decode cX0_countPairs 195 = .ok (.getfield 25, 3) := by decide +kernel
theorem dX0_countPairs_198 : decode cX0_countPairs 198 = .ok (.iload 7, 2) := by decide +kernel
theorem dX0_countPairs_200 : decode cX0_countPairs 200 = .ok (.iaload, 1) := by decide +kernel
theorem dX0_countPairs_201 : decode cX0_countPairs 201 = .ok (.invokestatic 145, 3) := by decide +kernel
theorem dX0_countPairs_204 : decode cX0_countPairs 204 = .ok (.dup2, 1) := by decide +kernel
theorem dX0_countPairs_205 : decode cX0_countPairs 205 = .ok (.iaload, 1) := by decide +kernel
theorem dX0_countPairs_206 : decode cX0_countPairs 206 = .ok (.aload_n 0, 1) := by decide +kernel
theorem dX0_countPairs_207 : decode cX0_countPairs 207 = .ok (.getfield 31, 3) := by decide +kernel
theorem dX0_countPairs_210 : decode cX0_countPairs 210 = .ok (.iload 6, 2) := by decide +kernel
theorem dX0_countPairs_212 : decode cX0_countPairs 212 = .ok (.iaload, 1) := by decide +kernel
theorem dX0_countPairs_213 : decode cX0_countPairs 213 = .ok (.iload 8, 2) := by decide +kernel
theorem dX0_countPairs_215 : decode cX0_countPairs 215 = .ok (.isub, 1) := by decide +kernel
theorem dX0_countPairs_216 : decode cX0_countPairs 216 = .ok (.iadd, 1) := by decide +kernel
theorem dX0_countPairs_217 : decode cX0_countPairs 217 = .ok (.iastore, 1) := by decide +kernel
theorem dX0_countPairs_218 : decode cX0_countPairs 218 = .ok (.aload_n 0, 1) := by decide +kernel
theorem dX0_countPairs_219 : decode cX0_countPairs 219 = .ok (.getfield 22, 3) := by decide +kernel
theorem dX0_countPairs_222 : decode cX0_countPairs 222 = .ok (.iload 6, 2) := by decide +kernel
theorem dX0_countPairs_224 : decode cX0_countPairs 224 = .ok (.iload 7, 2) := by decide +kernel
theorem dX0_countPairs_226 : decode cX0_countPairs 226 = .ok (.aload_n 0, 1) := by decide +kernel
theorem dX0_countPairs_227 : decode cX0_countPairs 227 = .ok (.getfield 25, 3) := by decide +kernel
theorem dX0_countPairs_230 : decode cX0_countPairs 230 = .ok (.iload 6, 2) := by decide +kernel
theorem dX0_countPairs_232 : decode cX0_countPairs 232 = .ok (.iaload, 1) := by decide +kernel
theorem dX0_countPairs_233 : decode cX0_countPairs 233 = .ok (.aload_n 0, 1) := by decide +kernel
theorem dX0_countPairs_234 : decode cX0_countPairs 234 = .ok (.getfield 28, 3) := by decide +kernel
theorem dX0_countPairs_237 : decode cX0_countPairs 237 = .ok (.iload 7, 2) := by decide +kernel
theorem dX0_countPairs_239 : decode cX0_countPairs 239 = .ok (.iaload, 1) := by decide +kernel
theorem dX0_countPairs_240 : decode cX0_countPairs 240 = .ok (.invokestatic 145, 3) := by decide +kernel
theorem dX0_countPairs_243 : decode cX0_countPairs 243 = .ok (.dup2, 1) := by decide +kernel
theorem dX0_countPairs_244 : decode cX0_countPairs 244 = .ok (.iaload, 1) := by decide +kernel
theorem dX0_countPairs_245 : decode cX0_countPairs 245 = .ok (.aload_n 0, 1) := by decide +kernel
theorem dX0_countPairs_246 : decode cX0_countPairs 246 = .ok (.getfield 31, 3) := by decide +kernel
theorem dX0_countPairs_249 : decode cX0_countPairs 249 = .ok (.iload 7, 2) := by decide +kernel
theorem dX0_countPairs_251 : decode cX0_countPairs 251 = .ok (.iaload, 1) := by decide +kernel
theorem dX0_countPairs_252 : decode cX0_countPairs 252 = .ok (.iload 8, 2) := by decide +kernel
theorem dX0_countPairs_254 : decode cX0_countPairs 254 = .ok (.isub, 1) := by decide +kernel
theorem dX0_countPairs_255 : decode cX0_countPairs 255 = .ok (.iadd, 1) := by decide +kernel
theorem dX0_countPairs_256 : decode cX0_countPairs 256 = .ok (.iastore, 1) := by decide +kernel
theorem dX0_countPairs_257 : decode cX0_countPairs 257 = .ok (.aload_n 0, 1) := by decide +kernel
theorem dX0_countPairs_258 : decode cX0_countPairs 258 = .ok (.getfield 22, 3) := by decide +kernel
theorem dX0_countPairs_261 : decode cX0_countPairs 261 = .ok (.iload 6, 2) := by decide +kernel
theorem dX0_countPairs_263 : decode cX0_countPairs 263 = .ok (.iload 7, 2) := by decide +kernel
theorem dX0_countPairs_265 : decode cX0_countPairs 265 = .ok (.aload_n 0, 1) := by decide +kernel
theorem dX0_countPairs_266 : decode cX0_countPairs 266 = .ok (.getfield 25, 3) := by decide +kernel
theorem dX0_countPairs_269 : decode cX0_countPairs 269 = .ok (.iload 6, 2) := by decide +kernel
theorem dX0_countPairs_271 : decode cX0_countPairs 271 = .ok (.iaload, 1) := by decide +kernel
theorem dX0_countPairs_272 : decode cX0_countPairs 272 = .ok (.aload_n 0, 1) := by decide +kernel
theorem dX0_countPairs_273 : decode cX0_countPairs 273 = .ok (.getfield 25, 3) := by decide +kernel
theorem dX0_countPairs_276 : decode cX0_countPairs 276 = .ok (.iload 7, 2) := by decide +kernel
theorem dX0_countPairs_278 : decode cX0_countPairs 278 = .ok (.iaload, 1) := by decide +kernel
theorem dX0_countPairs_279 : decode cX0_countPairs 279 = .ok (.invokestatic 145, 3) := by decide +kernel
theorem dX0_countPairs_282 : decode cX0_countPairs 282 = .ok (.dup2, 1) := by decide +kernel
theorem dX0_countPairs_283 : decode cX0_countPairs 283 = .ok (.iaload, 1) := by decide +kernel
theorem dX0_countPairs_284 : decode cX0_countPairs 284 = .ok (.iload 4, 2) := by decide +kernel
theorem dX0_countPairs_286 : decode cX0_countPairs 286 = .ok (.aload_n 0, 1) := by decide +kernel
theorem dX0_countPairs_287 : decode cX0_countPairs 287 = .ok (.getfield 31, 3) := by decide +kernel
theorem dX0_countPairs_290 : decode cX0_countPairs 290 = .ok (.iload 6, 2) := by decide +kernel
theorem dX0_countPairs_292 : decode cX0_countPairs 292 = .ok (.iaload, 1) := by decide +kernel
theorem dX0_countPairs_293 : decode cX0_countPairs 293 = .ok (.isub, 1) := by decide +kernel
theorem dX0_countPairs_294 : decode cX0_countPairs 294 = .ok (.aload_n 0, 1) := by decide +kernel
theorem dX0_countPairs_295 : decode cX0_countPairs 295 = .ok (.getfield 31, 3) := by decide +kernel
theorem dX0_countPairs_298 : decode cX0_countPairs 298 = .ok (.iload 7, 2) := by decide +kernel
theorem dX0_countPairs_300 : decode cX0_countPairs 300 = .ok (.iaload, 1) := by decide +kernel
theorem dX0_countPairs_301 : decode cX0_countPairs 301 = .ok (.isub, 1) := by decide +kernel
theorem dX0_countPairs_302 : decode cX0_countPairs 302 = .ok (.iload 8, 2) := by decide +kernel
theorem dX0_countPairs_304 : decode cX0_countPairs 304 = .ok (.iadd, 1) := by decide +kernel
theorem dX0_countPairs_305 : decode cX0_countPairs 305 = .ok (.iadd, 1) := by decide +kernel
theorem dX0_countPairs_306 : decode cX0_countPairs 306 = .ok (.iastore, 1) := by decide +kernel
theorem dX0_countPairs_307 : decode cX0_countPairs 307 = .ok (.iinc 7 1, 3) := by decide +kernel
theorem dX0_countPairs_310 : decode cX0_countPairs 310 = .ok (.goto (-196), 3) := by decide +kernel
theorem dX0_countPairs_313 : decode cX0_countPairs 313 = .ok (.iinc 6 1, 3) := by decide +kernel
theorem dX0_countPairs_316 : decode cX0_countPairs 316 = .ok (.goto (-215), 3) := by decide +kernel
theorem dX0_countPairs_319 : decode cX0_countPairs 319 = .ok (.return_, 1) := by decide +kernel
theorem dX0_spot_0 : decode cX0_spot 0 = .ok (.iload_n 0, 1) := by decide +kernel
theorem dX0_spot_1 : decode cX0_spot 1 = .ok (.iload_n 1, 1) := by decide +kernel
theorem dX0_spot_2 : decode cX0_spot 2 = .ok (.if_icmp .le 23, 3) := by decide +kernel
theorem dX0_spot_5 : decode cX0_spot 5 = .ok (.iload_n 0, 1) := by decide +kernel
theorem dX0_spot_6 : decode cX0_spot 6 = .ok (.iload_n 0, 1) := by decide +kernel
theorem dX0_spot_7 : decode cX0_spot 7 = .ok (.iconst 1, 1) := by decide +kernel
theorem dX0_spot_8 : decode cX0_spot 8 = .ok (.iadd, 1) := by decide +kernel
theorem dX0_spot_9 : decode cX0_spot 9 = .ok (.imul, 1) := by decide +kernel
theorem dX0_spot_10 : decode cX0_spot 10 = .ok (.iconst 2, 1) := by decide +kernel
theorem dX0_spot_11 : decode cX0_spot 11 = .ok (.idiv, 1) := by decide +kernel
theorem dX0_spot_12 : decode cX0_spot 12 = .ok (.iload_n 1, 1) := by decide +kernel
theorem dX0_spot_13 : decode cX0_spot 13 = .ok (.iadd, 1) := by decide +kernel
theorem dX0_spot_14 : decode cX0_spot 14 = .ok (.bipush 16, 2) := by decide +kernel
theorem dX0_spot_16 : decode cX0_spot 16 = .ok (.imul, 1) := by decide +kernel
theorem dX0_spot_17 : decode cX0_spot 17 = .ok (.iload_n 3, 1) := by decide +kernel
theorem dX0_spot_18 : decode cX0_spot 18 = .ok (.iadd, 1) := by decide +kernel
theorem dX0_spot_19 : decode cX0_spot 19 = .ok (.bipush 16, 2) := by decide +kernel
theorem dX0_spot_21 : decode cX0_spot 21 = .ok (.imul, 1) := by decide +kernel
theorem dX0_spot_22 : decode cX0_spot 22 = .ok (.iload_n 2, 1) := by decide +kernel
theorem dX0_spot_23 : decode cX0_spot 23 = .ok (.iadd, 1) := by decide +kernel
theorem dX0_spot_24 : decode cX0_spot 24 = .ok (.ireturn, 1) := by decide +kernel
theorem dX0_spot_25 : decode cX0_spot 25 = .ok (.iload_n 1, 1) := by decide +kernel
theorem dX0_spot_26 : decode cX0_spot 26 = .ok (.iload_n 1, 1) := by decide +kernel
theorem dX0_spot_27 : decode cX0_spot 27 = .ok (.iconst 1, 1) := by decide +kernel
theorem dX0_spot_28 : decode cX0_spot 28 = .ok (.iadd, 1) := by decide +kernel
theorem dX0_spot_29 : decode cX0_spot 29 = .ok (.imul, 1) := by decide +kernel
theorem dX0_spot_30 : decode cX0_spot 30 = .ok (.iconst 2, 1) := by decide +kernel
theorem dX0_spot_31 : decode cX0_spot 31 = .ok (.idiv, 1) := by decide +kernel
theorem dX0_spot_32 : decode cX0_spot 32 = .ok (.iload_n 0, 1) := by decide +kernel
theorem dX0_spot_33 : decode cX0_spot 33 = .ok (.iadd, 1) := by decide +kernel
theorem dX0_spot_34 : decode cX0_spot 34 = .ok (.bipush 16, 2) := by decide +kernel
theorem dX0_spot_36 : decode cX0_spot 36 = .ok (.imul, 1) := by decide +kernel
theorem dX0_spot_37 : decode cX0_spot 37 = .ok (.iload_n 2, 1) := by decide +kernel
theorem dX0_spot_38 : decode cX0_spot 38 = .ok (.iadd, 1) := by decide +kernel
theorem dX0_spot_39 : decode cX0_spot 39 = .ok (.bipush 16, 2) := by decide +kernel
theorem dX0_spot_41 : decode cX0_spot 41 = .ok (.imul, 1) := by decide +kernel
theorem dX0_spot_42 : decode cX0_spot 42 = .ok (.iload_n 3, 1) := by decide +kernel
theorem dX0_spot_43 : decode cX0_spot 43 = .ok (.iadd, 1) := by decide +kernel
theorem dX0_spot_44 : decode cX0_spot 44 = .ok (.ireturn, 1) := by decide +kernel
theorem dX0_chooseSecond_0 : decode cX0_chooseSecond 0 = .ok (.aload_n 0, 1) := by decide +kernel
theorem dX0_chooseSecond_1 : decode cX0_chooseSecond 1 = .ok (.invokevirtual 123, 3) := by decide +kernel
theorem dX0_chooseSecond_4 : decode cX0_chooseSecond 4 = .ok (.iconst 0, 1) := by decide +kernel
theorem dX0_chooseSecond_5 : decode cX0_chooseSecond 5 = .ok (.istore_n 3, 1) := by decide +kernel
theorem dX0_chooseSecond_6 : decode cX0_chooseSecond 6 = .ok (.iload_n 3, 1) := by decide +kernel
theorem dX0_chooseSecond_7 : decode cX0_chooseSecond 7 = .ok (.aload_n 0, 1) := by decide +kernel
theorem dX0_chooseSecond_8 : decode cX0_chooseSecond 8 = .ok (.getfield 140, 3) := by decide +kernel
theorem dX0_chooseSecond_11 : decode cX0_chooseSecond 11 = .ok (.if_icmp .ge 34, 3) := by decide +kernel
theorem dX0_chooseSecond_14 : decode cX0_chooseSecond 14 = .ok (.iload_n 3, 1) := by decide +kernel
theorem dX0_chooseSecond_15 : decode cX0_chooseSecond 15 = .ok (.iload_n 1, 1) := by decide +kernel
theorem dX0_chooseSecond_16 : decode cX0_chooseSecond 16 = .ok (.if_icmp .ne 11, 3) := by decide +kernel
theorem dX0_chooseSecond_19 : decode cX0_chooseSecond 19 = .ok (.aload_n 0, 1) := by decide +kernel
theorem dX0_chooseSecond_20 : decode cX0_chooseSecond 20 = .ok (.getfield 140, 3) := by decide +kernel
theorem dX0_chooseSecond_23 : decode cX0_chooseSecond 23 = .ok (.iconst 1, 1) := by decide +kernel
theorem dX0_chooseSecond_24 : decode cX0_chooseSecond 24 = .ok (.if_icmp .ne 15, 3) := by decide +kernel
theorem dX0_chooseSecond_27 : decode cX0_chooseSecond 27 = .ok (.aload_n 0, 1) := by decide +kernel
theorem dX0_chooseSecond_28 : decode cX0_chooseSecond 28 = .ok (.iload_n 3, 1) := by decide +kernel
theorem dX0_chooseSecond_29 : decode cX0_chooseSecond 29 = .ok (.aload_n 0, 1) := by decide +kernel
theorem dX0_chooseSecond_30 : decode cX0_chooseSecond 30 = .ok (.iload_n 1, 1) := by decide +kernel
theorem dX0_chooseSecond_31 : decode cX0_chooseSecond 31 = .ok (.iload_n 2, 1) := by decide +kernel
theorem dX0_chooseSecond_32 : decode cX0_chooseSecond 32 = .ok (.iload_n 3, 1) := by decide +kernel
theorem dX0_chooseSecond_33 : decode cX0_chooseSecond 33 = .ok (.invokevirtual 149, 3) := by decide +kernel
theorem dX0_chooseSecond_36 : decode cX0_chooseSecond 36 = .ok (.invokevirtual 130, 3) := by decide +kernel
theorem dX0_chooseSecond_39 : decode cX0_chooseSecond 39 = .ok (.iinc 3 1, 3) := by decide +kernel
theorem dX0_chooseSecond_42 : decode cX0_chooseSecond 42 = .ok (.goto (-36), 3) := by decide +kernel
theorem dX0_chooseSecond_45 : decode cX0_chooseSecond 45 = .ok (.return_, 1) := by decide +kernel
theorem dX0_greatestAfter_0 : decode cX0_greatestAfter 0 = .ok (.iconst 0, 1) := by decide +kernel
theorem dX0_greatestAfter_1 : decode cX0_greatestAfter 1 = .ok (.istore 4, 2) := by decide +kernel
theorem dX0_greatestAfter_3 : decode cX0_greatestAfter 3 = .ok (.iconst 0, 1) := by decide +kernel
theorem dX0_greatestAfter_4 : decode cX0_greatestAfter 4 = .ok (.istore 5, 2) := by decide +kernel
theorem dX0_greatestAfter_6 : decode cX0_greatestAfter 6 = .ok (.iload 5, 2) := by decide +kernel
theorem dX0_greatestAfter_8 : decode cX0_greatestAfter 8 = .ok (.bipush 16, 2) := by decide +kernel
theorem dX0_greatestAfter_10 : decode cX0_greatestAfter 10 = .ok (.if_icmp .ge 29, 3) := by decide +kernel
theorem dX0_greatestAfter_13 : decode cX0_greatestAfter 13 = .ok (.iload 4, 2) := by decide +kernel
theorem dX0_greatestAfter_15 : decode cX0_greatestAfter 15 = .ok (.aload_n 0, 1) := by decide +kernel
theorem dX0_greatestAfter_16 : decode cX0_greatestAfter 16 = .ok (.getfield 22, 3) := by decide +kernel
theorem dX0_greatestAfter_19 : decode cX0_greatestAfter 19 = .ok (.iload_n 1, 1) := by decide +kernel
theorem dX0_greatestAfter_20 : decode cX0_greatestAfter 20 = .ok (.iload_n 3, 1) := by decide +kernel
theorem dX0_greatestAfter_21 : decode cX0_greatestAfter 21 = .ok (.iload_n 2, 1) := by decide +kernel
theorem dX0_greatestAfter_22 : decode cX0_greatestAfter 22 = .ok (.iload 5, 2) := by decide +kernel
theorem dX0_greatestAfter_24 : decode cX0_greatestAfter 24 = .ok (.invokestatic 145, 3) := by decide +kernel
theorem dX0_greatestAfter_27 : decode cX0_greatestAfter 27 = .ok (.iaload, 1) := by decide +kernel
theorem dX0_greatestAfter_28 : decode cX0_greatestAfter 28 = .ok (.invokestatic 117, 3) := by decide +kernel
theorem dX0_greatestAfter_31 : decode cX0_greatestAfter 31 = .ok (.istore 4, 2) := by decide +kernel
theorem dX0_greatestAfter_33 : decode cX0_greatestAfter 33 = .ok (.iinc 5 1, 3) := by decide +kernel
theorem dX0_greatestAfter_36 : decode cX0_greatestAfter 36 = .ok (.goto (-30), 3) := by decide +kernel
theorem dX0_greatestAfter_39 : decode cX0_greatestAfter 39 = .ok (.iload 4, 2) := by decide +kernel
theorem dX0_greatestAfter_41 : decode cX0_greatestAfter 41 = .ok (.ireturn, 1) := by decide +kernel
theorem dX0_chooseFirst_0 : decode cX0_chooseFirst 0 = .ok (.iconst (-1), 1) := by decide +kernel
theorem dX0_chooseFirst_1 : decode cX0_chooseFirst 1 = .ok (.istore_n 1, 1) := by decide +kernel
theorem dX0_chooseFirst_2 : decode cX0_chooseFirst 2 = .ok (.iconst 0, 1) := by decide +kernel
theorem dX0_chooseFirst_3 : decode cX0_chooseFirst 3 = .ok (.istore_n 2, 1) := by decide +kernel
theorem dX0_chooseFirst_4 : decode cX0_chooseFirst 4 = .ok (.iconst 0, 1) := by decide +kernel
theorem dX0_chooseFirst_5 : decode cX0_chooseFirst 5 = .ok (.istore_n 3, 1) := by decide +kernel
theorem dX0_chooseFirst_6 : decode cX0_chooseFirst 6 = .ok (.iload_n 3, 1) := by decide +kernel
theorem dX0_chooseFirst_7 : decode cX0_chooseFirst 7 = .ok (.aload_n 0, 1) := by decide +kernel
theorem dX0_chooseFirst_8 : decode cX0_chooseFirst 8 = .ok (.getfield 140, 3) := by decide +kernel
theorem dX0_chooseFirst_11 : decode cX0_chooseFirst 11 = .ok (.if_icmp .ge 62, 3) := by decide +kernel
theorem dX0_chooseFirst_14 : decode cX0_chooseFirst 14 = .ok (.iconst 0, 1) := by decide +kernel
theorem dX0_chooseFirst_15 : decode cX0_chooseFirst 15 = .ok (.istore 4, 2) := by decide +kernel
theorem dX0_chooseFirst_17 : decode cX0_chooseFirst 17 = .ok (.iconst 0, 1) := by decide +kernel
theorem dX0_chooseFirst_18 : decode cX0_chooseFirst 18 = .ok (.istore 5, 2) := by decide +kernel
theorem dX0_chooseFirst_20 : decode cX0_chooseFirst 20 = .ok (.iload 5, 2) := by decide +kernel
theorem dX0_chooseFirst_22 : decode cX0_chooseFirst 22 = .ok (.bipush 16, 2) := by decide +kernel
theorem dX0_chooseFirst_24 : decode cX0_chooseFirst 24 = .ok (.if_icmp .ge 27, 3) := by decide +kernel
theorem dX0_chooseFirst_27 : decode cX0_chooseFirst 27 = .ok (.aload_n 0, 1) := by decide +kernel
theorem dX0_chooseFirst_28 : decode cX0_chooseFirst 28 = .ok (.iload_n 3, 1) := by decide +kernel
theorem dX0_chooseFirst_29 : decode cX0_chooseFirst 29 = .ok (.iload 5, 2) := by decide +kernel
theorem dX0_chooseFirst_31 : decode cX0_chooseFirst 31 = .ok (.invokevirtual 153, 3) := by decide +kernel
theorem dX0_chooseFirst_34 : decode cX0_chooseFirst 34 = .ok (.iload 4, 2) := by decide +kernel
theorem dX0_chooseFirst_36 : decode cX0_chooseFirst 36 = .ok (.aload_n 0, 1) := by decide +kernel
theorem dX0_chooseFirst_37 : decode cX0_chooseFirst 37 = .ok (.getfield 38, 3) := by decide +kernel
theorem dX0_chooseFirst_40 : decode cX0_chooseFirst 40 = .ok (.invokestatic 117, 3) := by decide +kernel
theorem dX0_chooseFirst_43 : decode cX0_chooseFirst 43 = .ok (.istore 4, 2) := by decide +kernel
theorem dX0_chooseFirst_45 : decode cX0_chooseFirst 45 = .ok (.iinc 5 1, 3) := by decide +kernel
theorem dX0_chooseFirst_48 : decode cX0_chooseFirst 48 = .ok (.goto (-28), 3) := by decide +kernel
theorem dX0_chooseFirst_51 : decode cX0_chooseFirst 51 = .ok (.iload_n 1, 1) := by decide +kernel
theorem dX0_chooseFirst_52 : decode cX0_chooseFirst 52 = .ok (.iconst (-1), 1) := by decide +kernel
theorem dX0_chooseFirst_53 : decode cX0_chooseFirst 53 = .ok (.if_icmp .eq 9, 3) := by decide +kernel
theorem dX0_chooseFirst_56 : decode cX0_chooseFirst 56 = .ok (.iload 4, 2) := by decide +kernel
theorem dX0_chooseFirst_58 : decode cX0_chooseFirst 58 = .ok (.iload_n 2, 1) := by decide +kernel
theorem dX0_chooseFirst_59 : decode cX0_chooseFirst 59 = .ok (.if_icmp .ge 8, 3) := by decide +kernel
theorem dX0_chooseFirst_62 : decode cX0_chooseFirst 62 = .ok (.iload_n 3, 1) := by decide +kernel
theorem dX0_chooseFirst_63 : decode cX0_chooseFirst 63 = .ok (.istore_n 1, 1) := by decide +kernel
theorem dX0_chooseFirst_64 : decode cX0_chooseFirst 64 = .ok (.iload 4, 2) := by decide +kernel
theorem dX0_chooseFirst_66 : decode cX0_chooseFirst 66 = .ok (.istore_n 2, 1) := by decide +kernel
theorem dX0_chooseFirst_67 : decode cX0_chooseFirst 67 = .ok (.iinc 3 1, 3) := by decide +kernel
theorem dX0_chooseFirst_70 : decode cX0_chooseFirst 70 = .ok (.goto (-64), 3) := by decide +kernel
theorem dX0_chooseFirst_73 : decode cX0_chooseFirst 73 = .ok (.aload_n 0, 1) := by decide +kernel
theorem dX0_chooseFirst_74 : decode cX0_chooseFirst 74 = .ok (.iload_n 1, 1) := by decide +kernel
theorem dX0_chooseFirst_75 : decode cX0_chooseFirst 75 = .ok (.putfield 34, 3) := by decide +kernel
theorem dX0_chooseFirst_78 : decode cX0_chooseFirst 78 = .ok (.aload_n 0, 1) := by decide +kernel
theorem dX0_chooseFirst_79 : decode cX0_chooseFirst 79 = .ok (.iload_n 2, 1) := by decide +kernel
theorem dX0_chooseFirst_80 : decode cX0_chooseFirst 80 = .ok (.putfield 38, 3) := by decide +kernel
theorem dX0_chooseFirst_83 : decode cX0_chooseFirst 83 = .ok (.return_, 1) := by decide +kernel
theorem dX1_init_0 : decode cX1_init 0 = .ok (.aload_n 0, 1) := by decide +kernel
theorem dX1_init_1 : decode cX1_init 1 = .ok (.invokespecial 3, 3) := by decide +kernel
theorem dX1_init_4 : decode cX1_init 4 = .ok (.aload_n 0, 1) := by decide +kernel
theorem dX1_init_5 : decode cX1_init 5 = .ok (.sipush 1024, 3) := by decide +kernel
theorem dX1_init_8 : decode cX1_init 8 = .ok (.newarray .int, 2) := by decide +kernel
theorem dX1_init_10 : decode cX1_init 10 = .ok (.putfield 11, 3) := by decide +kernel
theorem dX1_init_13 : decode cX1_init 13 = .ok (.aload_n 0, 1) := by decide +kernel
theorem dX1_init_14 : decode cX1_init 14 = .ok (.sipush 144, 3) := by decide +kernel
theorem dX1_init_17 : decode cX1_init 17 = .ok (.newarray .int, 2) := by decide +kernel
theorem dX1_init_19 : decode cX1_init 19 = .ok (.putfield 15, 3) := by decide +kernel
theorem dX1_init_22 : decode cX1_init 22 = .ok (.aload_n 0, 1) := by decide +kernel
theorem dX1_init_23 : decode cX1_init 23 = .ok (.iconst 5, 1) := by decide +kernel
theorem dX1_init_24 : decode cX1_init 24 = .ok (.newarray .int, 2) := by decide +kernel
theorem dX1_init_26 : decode cX1_init 26 = .ok (.putfield 18, 3) := by decide +kernel
theorem dX1_init_29 : decode cX1_init 29 = .ok (.aload_n 0, 1) := by decide +kernel
theorem dX1_init_30 : decode cX1_init 30 = .ok (.bipush 37, 2) := by decide +kernel
theorem dX1_init_32 : decode cX1_init 32 = .ok (.newarray .long, 2) := by decide +kernel
theorem dX1_init_34 : decode cX1_init 34 = .ok (.putfield 21, 3) := by decide +kernel
theorem dX1_init_37 : decode cX1_init 37 = .ok (.aload_n 0, 1) := by decide +kernel
theorem dX1_init_38 : decode cX1_init 38 = .ok (.bipush 37, 2) := by decide +kernel
theorem dX1_init_40 : decode cX1_init 40 = .ok (.newarray .int, 2) := by decide +kernel
theorem dX1_init_42 : decode cX1_init 42 = .ok (.putfield 25, 3) := by decide +kernel
theorem dX1_init_45 : decode cX1_init 45 = .ok (.return_, 1) := by decide +kernel
theorem dX1_fill_0 : decode cX1_fill 0 = .ok (.aload_n 0, 1) := by decide +kernel
theorem dX1_fill_1 : decode cX1_fill 1 = .ok (.getfield 28, 3) := by decide +kernel
theorem dX1_fill_4 : decode cX1_fill 4 = .ok (.iload_n 3, 1) := by decide +kernel
theorem dX1_fill_5 : decode cX1_fill 5 = .ok (.if_icmp .ne 4, 3) := by decide +kernel
theorem dX1_fill_8 : decode cX1_fill 8 = .ok (.return_, 1) := by decide +kernel
theorem dX1_fill_9 : decode cX1_fill 9 = .ok (.aload_n 0, 1) := by decide +kernel
theorem dX1_fill_10 : decode cX1_fill 10 = .ok (.iload_n 3, 1) := by decide +kernel
theorem dX1_fill_11 : decode cX1_fill 11 = .ok (.putfield 28, 3) := by decide +kernel
theorem dX1_fill_14 : decode cX1_fill 14 = .ok (.aload_n 0, 1) := by decide +kernel
theorem dX1_fill_15 : decode cX1_fill 15 = .ok (.aload_n 2, 1) := by decide +kernel
theorem dX1_fill_16 : decode cX1_fill 16 = .ok (.invokevirtual 32, 3) := by decide +kernel
theorem dX1_fill_19 : decode cX1_fill 19 = .ok (.aload_n 0, 1) := by decide +kernel
theorem dX1_fill_20 : decode cX1_fill 20 = .ok (.getfield 11, 3) := by decide +kernel
theorem dX1_fill_23 : decode cX1_fill 23 = .ok (.iconst 0, 1) := by decide +kernel
theorem dX1_fill_24 : decode cX1_fill 24 = .ok (.invokestatic 36, 3) := by decide +kernel
theorem dX1_fill_27 : decode cX1_fill 27 = .ok (.aload_n 1, 1) := by decide +kernel
theorem dX1_fill_28 : decode cX1_fill 28 = .ok (.iconst 0, 1) := by decide +kernel
theorem dX1_fill_29 : decode cX1_fill 29 = .ok (.invokevirtual 42, 3) := by decide +kernel
theorem dX1_fill_32 : decode cX1_fill 32 = .ok (.aload_n 0, 1) := by decide +kernel
theorem dX1_fill_33 : decode cX1_fill 33 = .ok (.aload_n 1, 1) := by decide +kernel
theorem dX1_fill_34 : decode cX1_fill 34 = .ok (.invokevirtual 48, 3) := by decide +kernel
theorem dX1_fill_37 : decode cX1_fill 37 = .ok (.invokevirtual 52, 3) := by decide +kernel
theorem dX1_fill_40 : decode cX1_fill 40 = .ok (.iconst 0, 1) := by decide +kernel
theorem dX1_fill_41 : decode cX1_fill 41 = .ok (.istore 4, 2) := by decide +kernel
theorem dX1_fill_43 : decode cX1_fill 43 = .ok (.iload 4, 2) := by decide +kernel
theorem dX1_fill_45 : decode cX1_fill 45 = .ok (.ldc 55, 2) := by decide +kernel
theorem dX1_fill_47 : decode cX1_fill 47 = .ok (.if_icmp .ge 21, 3) := by decide +kernel
theorem dX1_fill_50 : decode cX1_fill 50 = .ok (.aload_n 1, 1) := by decide +kernel
theorem dX1_fill_51 : decode cX1_fill 51 = .ok (.invokevirtual 56, 3) := by decide +kernel
theorem dX1_fill_54 : decode cX1_fill 54 = .ok (.ifCond .eq 14, 3) := by decide +kernel
theorem dX1_fill_57 : decode cX1_fill 57 = .ok (.aload_n 0, 1) := by decide +kernel
theorem dX1_fill_58 : decode cX1_fill 58 = .ok (.aload_n 1, 1) := by decide +kernel
theorem dX1_fill_59 : decode cX1_fill 59 = .ok (.invokevirtual 60, 3) := by decide +kernel
theorem dX1_fill_62 : decode cX1_fill 62 = .ok (.iinc 4 1, 3) := by decide +kernel
theorem dX1_fill_65 : decode cX1_fill 65 = .ok (.goto (-22), 3) := by decide +kernel
theorem dX1_fill_68 : decode cX1_fill 68 = .ok (.aload_n 0, 1) := by decide +kernel
theorem dX1_fill_69 : decode cX1_fill 69 = .ok (.invokevirtual 64, 3) := by decide +kernel
theorem dX1_fill_72 : decode cX1_fill 72 = .ok (.return_, 1) := by decide +kernel
theorem dX1_sortNotes_0 : decode cX1_sortNotes 0 = .ok (.aload_n 0, 1) := by decide +kernel
theorem dX1_sortNotes_1 : decode cX1_sortNotes 1 = .ok (.getfield 18, 3) := by decide +kernel
theorem dX1_sortNotes_4 : decode cX1_sortNotes 4 = .ok (.iconst 0, 1) := by decide +kernel
theorem dX1_sortNotes_5 : decode cX1_sortNotes 5 = .ok (.invokestatic 36, 3) := by decide +kernel
theorem dX1_sortNotes_8 : decode cX1_sortNotes 8 = .ok (.aload_n 0, 1) := by decide +kernel
theorem dX1_sortNotes_9 : decode cX1_sortNotes 9 = .ok (.getfield 15, 3) := by decide +kernel
theorem dX1_sortNotes_12 : decode cX1_sortNotes 12 = .ok (.iconst 0, 1) := by decide +kernel
theorem dX1_sortNotes_13 : decode cX1_sortNotes 13 = .ok (.invokestatic 36, 3) := by decide +kernel
theorem dX1_sortNotes_16 : decode cX1_sortNotes 16 = .ok (.iconst 0, 1) := by decide +kernel
theorem dX1_sortNotes_17 : decode cX1_sortNotes 17 = .ok (.istore_n 2, 1) := by decide +kernel
theorem dX1_sortNotes_18 : decode cX1_sortNotes 18 = .ok (.iload_n 2, 1) := by decide +kernel
theorem dX1_sortNotes_19 : decode cX1_sortNotes 19 = .ok (.aload_n 1, 1) := by decide +kernel
theorem dX1_sortNotes_20 : decode cX1_sortNotes 20 = .ok (.getfield 67, 3) := by decide +kernel
theorem dX1_sortNotes_23 : decode cX1_sortNotes 23 = .ok (.if_icmp .ge 87, 3) := by decide +kernel
theorem dX1_sortNotes_26 : decode cX1_sortNotes 26 = .ok (.aload_n 1, 1) := by decide +kernel
theorem dX1_sortNotes_27 : decode cX1_sortNotes 27 = .ok (.iload_n 2, 1) := by decide +kernel
theorem dX1_sortNotes_28 : decode cX1_sortNotes 28 = .ok (.invokevirtual 72, 3) := by decide +kernel
theorem dX1_sortNotes_31 : decode cX1_sortNotes 31 = .ok (.istore_n 3, 1) := by decide +kernel
theorem dX1_sortNotes_32 : decode cX1_sortNotes 32 = .ok (.aload_n 0, 1) := by decide +kernel
theorem dX1_sortNotes_33 : decode cX1_sortNotes 33 = .ok (.getfield 18, 3) := by decide +kernel
theorem dX1_sortNotes_36 : decode cX1_sortNotes 36 = .ok (.iload_n 3, 1) := by decide +kernel
theorem dX1_sortNotes_37 : decode cX1_sortNotes 37 = .ok (.ifCond .ge 7, 3) := by decide +kernel
theorem dX1_sortNotes_40 : decode cX1_sortNotes 40 = .ok (.iconst 4, 1) := by decide +kernel
theorem dX1_sortNotes_41 : decode cX1_sortNotes 41 = .ok (.goto 4, 3) := by decide +kernel
theorem dX1_sortNotes_44 : decode cX1_sortNotes 44 = .ok (.iload_n 3, 1) := by decide +kernel
theorem dX1_sortNotes_45 : decode cX1_sortNotes 45 = .ok (.dup2, 1) := by decide +kernel
theorem dX1_sortNotes_46 : decode cX1_sortNotes 46 = .ok (.iaload, 1) := by decide +kernel
theorem dX1_sortNotes_47 : decode cX1_sortNotes 47 = .ok (.iconst 1, 1) := by decide +kernel
theorem dX1_sortNotes_48 : decode cX1_sortNotes 48 = .ok (.iload_n 2, 1) := by decide +kernel
theorem dX1_sortNotes_49 : decode cX1_sortNotes 49 = .ok (.ishl, 1) := by decide +kernel
theorem dX1_sortNotes_50 : decode cX1_sortNotes 50 = .ok (.ior, 1) := by decide +kernel
theorem dX1_sortNotes_51 : decode cX1_sortNotes 51 = .ok (.iastore, 1) := by decide +kernel
theorem dX1_sortNotes_52 : decode cX1_sortNotes 52 = .ok (.aload_n 1, 1) := by decide +kernel
theorem dX1_sortNotes_53 : decode cX1_sortNotes 53 = .ok (.iload_n 2, 1) := by decide +kernel
theorem dX1_sortNotes_54 : decode cX1_sortNotes 54 = .ok (.invokevirtual 76, 3) := by decide +kernel
theorem dX1_sortNotes_57 : decode cX1_sortNotes 57 = .ok (.lstore 4, 2) := by decide +kernel
theorem dX1_sortNotes_59 : decode cX1_sortNotes 59 = .ok (.iconst 0, 1) := by decide +kernel
theorem dX1_sortNotes_60 : decode cX1_sortNotes 60 = .ok (.istore 6, 2) := by decide +kernel
theorem dX1_sortNotes_62 : decode cX1_sortNotes 62 = .ok (.iload 6, 2) := by decide +kernel
theorem dX1_sortNotes_64 : decode cX1_sortNotes 64 = .ok (.bipush 36, 2) := by decide +kernel
theorem dX1_sortNotes_66 : decode cX1_sortNotes 66 = .ok (.if_icmp .ge 38, 3) := by decide +kernel
theorem dX1_sortNotes_69 : decode cX1_sortNotes 69 = .ok (.aload_n 0, 1) := by decide +kernel
theorem dX1_sortNotes_70 : decode cX1_sortNotes 70 = .ok (.getfield 15, 3) := by decide +kernel
theorem dX1_sortNotes_73 : decode cX1_sortNotes 73 = .ok (.aload_n 1, 1) := by decide +kernel
theorem dX1_sortNotes_74 : decode cX1_sortNotes 74 = .ok (.iload_n 2, 1) := by decide +kernel
theorem dX1_sortNotes_75 : decode cX1_sortNotes 75 = .ok (.invokevirtual 80, 3) := by decide +kernel
theorem dX1_sortNotes_78 : decode cX1_sortNotes 78 = .ok (.bipush 36, 2) := by decide +kernel
theorem dX1_sortNotes_80 : decode cX1_sortNotes 80 = .ok (.imul, 1) := by decide +kernel
theorem dX1_sortNotes_81 : decode cX1_sortNotes 81 = .ok (.iload 6, 2) := by decide +kernel
theorem dX1_sortNotes_83 : decode cX1_sortNotes 83 = .ok (.iadd, 1) := by decide +kernel
theorem dX1_sortNotes_84 : decode cX1_sortNotes 84 = .ok (.dup2, 1) := by decide +kernel
theorem dX1_sortNotes_85 : decode cX1_sortNotes 85 = .ok (.iaload, 1) := by decide +kernel
theorem dX1_sortNotes_86 : decode cX1_sortNotes 86 = .ok (.lload 4, 2) := by decide +kernel
theorem dX1_sortNotes_88 : decode cX1_sortNotes 88 = .ok (.iload 6, 2) := by decide +kernel
theorem dX1_sortNotes_90 : decode cX1_sortNotes 90 = .ok (.lushr, 1) := by decide +kernel
theorem dX1_sortNotes_91 : decode cX1_sortNotes 91 = .ok (.lconst 1, 1) := by decide +kernel
theorem dX1_sortNotes_92 : decode cX1_sortNotes 92 = .ok (.land, 1) := by decide +kernel
theorem dX1_sortNotes_93 : decode cX1_sortNotes 93 = .ok (.l2i, 1) := by decide +kernel
theorem dX1_sortNotes_94 : decode cX1_sortNotes 94 = .ok (.iload_n 2, 1) := by decide +kernel
theorem dX1_sortNotes_95 : decode cX1_sortNotes 95 = .ok (.ishl, 1) := by decide +kernel
theorem dX1_sortNotes_96 : decode cX1_sortNotes 96 = .ok (.ior, 1) := by decide +kernel
theorem dX1_sortNotes_97 : decode cX1_sortNotes 97 = .ok (.iastore, 1) := by decide +kernel
theorem dX1_sortNotes_98 : decode cX1_sortNotes 98 = .ok (.iinc 6 1, 3) := by decide +kernel
theorem dX1_sortNotes_101 : decode cX1_sortNotes 101 = .ok (.goto (-39), 3) := by decide +kernel
theorem dX1_sortNotes_104 : decode cX1_sortNotes 104 = .ok (.iinc 2 1, 3) := by decide +kernel
theorem dX1_sortNotes_107 : decode cX1_sortNotes 107 = .ok (.goto (-89), 3) := by decide +kernel
theorem dX1_sortNotes_110 : decode cX1_sortNotes 110 = .ok (.return_, 1) := by decide +kernel
theorem dX1_groupSquares_0 : decode cX1_groupSquares 0 = .ok (.aload_n 0, 1) := by decide +kernel
theorem dX1_groupSquares_1 : decode cX1_groupSquares 1 = .ok (.iconst 1, 1) := by decide +kernel
theorem dX1_groupSquares_2 : decode cX1_groupSquares 2 = .ok (.putfield 83, 3) := by decide +kernel
theorem dX1_groupSquares_5 : decode cX1_groupSquares 5 = .ok (.aload_n 0, 1) := by decide +kernel
theorem dX1_groupSquares_6 : decode cX1_groupSquares 6 = .ok (.getfield 21, 3) := by decide +kernel
theorem dX1_groupSquares_9 : decode cX1_groupSquares 9 = .ok (.iconst 0, 1) := by decide +kernel
theorem dX1_groupSquares_10 : decode cX1_groupSquares 10 = .ok (.ldc2_w 86, 3) := by decide +kernel
theorem dX1_groupSquares_13 : decode cX1_groupSquares 13 = .ok (.lastore, 1) := by decide +kernel
theorem dX1_groupSquares_14 : decode cX1_groupSquares 14 = .ok (.aload_n 0, 1) := by decide +kernel
theorem dX1_groupSquares_15 : decode cX1_groupSquares 15 = .ok (.getfield 25, 3) := by decide +kernel
theorem dX1_groupSquares_18 : decode cX1_groupSquares 18 = .ok (.iconst 0, 1) := by decide +kernel
theorem dX1_groupSquares_19 : decode cX1_groupSquares 19 = .ok (.iconst 0, 1) := by decide +kernel
theorem dX1_groupSquares_20 : decode cX1_groupSquares 20 = .ok (.iastore, 1) := by decide +kernel
theorem dX1_groupSquares_21 : decode cX1_groupSquares 21 = .ok (.iconst 0, 1) := by decide +kernel
theorem dX1_groupSquares_22 : decode cX1_groupSquares 22 = .ok (.istore_n 2, 1) := by decide +kernel
theorem dX1_groupSquares_23 : decode cX1_groupSquares 23 = .ok (.iload_n 2, 1) := by decide +kernel
theorem dX1_groupSquares_24 : decode cX1_groupSquares 24 = .ok (.bipush 36, 2) := by decide +kernel
theorem dX1_groupSquares_26 : decode cX1_groupSquares 26 = .ok (.if_icmp .ge 119, 3) := by decide +kernel
theorem dX1_groupSquares_29 : decode cX1_groupSquares 29 = .ok (.aload_n 0, 1) := by decide +kernel
theorem dX1_groupSquares_30 : decode cX1_groupSquares 30 = .ok (.getfield 15, 3) := by decide +kernel
theorem dX1_groupSquares_33 : decode cX1_groupSquares 33 = .ok (.iload_n 1, 1) := by decide +kernel
theorem dX1_groupSquares_34 : decode cX1_groupSquares 34 = .ok (.bipush 36, 2) := by decide +kernel
theorem dX1_groupSquares_36 : decode cX1_groupSquares 36 = .ok (.imul, 1) := by decide +kernel
theorem dX1_groupSquares_37 : decode cX1_groupSquares 37 = .ok (.iload_n 2, 1) := by decide +kernel
theorem dX1_groupSquares_38 : decode cX1_groupSquares 38 = .ok (.iadd, 1) := by decide +kernel
theorem dX1_groupSquares_39 : decode cX1_groupSquares 39 = .ok (.iaload, 1) := by decide +kernel
theorem dX1_groupSquares_40 : decode cX1_groupSquares 40 = .ok (.istore_n 3, 1) := by decide +kernel
theorem dX1_groupSquares_41 : decode cX1_groupSquares 41 = .ok (.iconst 0, 1) := by decide +kernel
theorem dX1_groupSquares_42 : decode cX1_groupSquares 42 = .ok (.istore 4, 2) := by decide +kernel
theorem dX1_groupSquares_44 : decode cX1_groupSquares 44 = .ok (.iload 4, 2) := by decide +kernel
theorem dX1_groupSquares_46 : decode cX1_groupSquares 46 = .ok (.aload_n 0, 1) := by decide +kernel
theorem dX1_groupSquares_47 : decode cX1_groupSquares 47 = .ok (.getfield 83, 3) := by decide +kernel
theorem dX1_groupSquares_50 : decode cX1_groupSquares 50 = .ok (.if_icmp .ge 20, 3) := by decide +kernel
theorem dX1_groupSquares_53 : decode cX1_groupSquares 53 = .ok (.aload_n 0, 1) := by decide +kernel
theorem dX1_groupSquares_54 : decode cX1_groupSquares 54 = .ok (.getfield 25, 3) := by decide +kernel
theorem dX1_groupSquares_57 : decode cX1_groupSquares 57 = .ok (.iload 4, 2) := by decide +kernel
theorem dX1_groupSquares_59 : decode cX1_groupSquares 59 = .ok (.iaload, 1) := by decide +kernel
theorem dX1_groupSquares_60 : decode cX1_groupSquares 60 = .ok (.iload_n 3, 1) := by decide +kernel
theorem dX1_groupSquares_61 : decode cX1_groupSquares 61 = .ok (.if_icmp .eq 9, 3) := by decide +kernel
theorem dX1_groupSquares_64 : decode cX1_groupSquares 64 = .ok (.iinc 4 1, 3) := by decide +kernel
theorem dX1_groupSquares_67 : decode cX1_groupSquares 67 = .ok (.goto (-23), 3) := by decide +kernel
theorem dX1_groupSquares_70 : decode cX1_groupSquares 70 = .ok (.iload 4, 2) := by decide +kernel
theorem dX1_groupSquares_72 : decode cX1_groupSquares 72 = .ok (.aload_n 0, 1) := by decide +kernel
theorem dX1_groupSquares_73 : decode cX1_groupSquares 73 = .ok (.getfield 83, 3) := by decide +kernel
theorem dX1_groupSquares_76 : decode cX1_groupSquares 76 = .ok (.if_icmp .ne 29, 3) := by decide +kernel
theorem dX1_groupSquares_79 : decode cX1_groupSquares 79 = .ok (.aload_n 0, 1) := by decide +kernel
theorem dX1_groupSquares_80 : decode cX1_groupSquares 80 = .ok (.getfield 25, 3) := by decide +kernel
theorem dX1_groupSquares_83 : decode cX1_groupSquares 83 = .ok (.iload 4, 2) := by decide +kernel
theorem dX1_groupSquares_85 : decode cX1_groupSquares 85 = .ok (.iload_n 3, 1) := by decide +kernel
theorem dX1_groupSquares_86 : decode cX1_groupSquares 86 = .ok (.iastore, 1) := by decide +kernel
theorem dX1_groupSquares_87 : decode cX1_groupSquares 87 = .ok (.aload_n 0, 1) := by decide +kernel
theorem dX1_groupSquares_88 : decode cX1_groupSquares 88 = .ok (.getfield 21, 3) := by decide +kernel
theorem dX1_groupSquares_91 : decode cX1_groupSquares 91 = .ok (.iload 4, 2) := by decide +kernel
theorem dX1_groupSquares_93 : decode cX1_groupSquares 93 = .ok (.lconst 0, 1) := by decide +kernel
theorem dX1_groupSquares_94 : decode cX1_groupSquares 94 = .ok (.lastore, 1) := by decide +kernel
theorem dX1_groupSquares_95 : decode cX1_groupSquares 95 = .ok (.aload_n 0, 1) := by decide +kernel
theorem dX1_groupSquares_96 : decode cX1_groupSquares 96 = .ok (.dup, 1) := by decide +kernel
theorem dX1_groupSquares_97 : decode cX1_groupSquares 97 = .ok (.getfield 83, 3) := by decide +kernel
theorem dX1_groupSquares_100 : decode cX1_groupSquares 100 = .ok (.iconst 1, 1) := by decide +kernel
theorem dX1_groupSquares_101 : decode cX1_groupSquares 101 = .ok (.iadd, 1) := by decide +kernel
theorem dX1_groupSquares_102 : decode cX1_groupSquares 102 = .ok (.putfield 83, 3) := by decide +kernel
theorem dX1_groupSquares_105 : decode cX1_groupSquares 105 = .ok (.iload 4, 2) := by decide +kernel
theorem dX1_groupSquares_107 : decode cX1_groupSquares 107 = .ok (.ifCond .le 32, 3) := by decide +kernel
theorem dX1_groupSquares_110 : decode cX1_groupSquares 110 = .ok (.aload_n 0, 1) := by decide +kernel
theorem dX1_groupSquares_111 : decode cX1_groupSquares 111 = .ok (.getfield 21, 3) := by decide +kernel
theorem dX1_groupSquares_114 : decode cX1_groupSquares 114 = .ok (.iload 4, 2) := by decide +kernel
theorem dX1_groupSquares_116 : decode cX1_groupSquares 116 = .ok (.dup2, 1) := by decide +kernel
theorem dX1_groupSquares_117 : decode cX1_groupSquares 117 = .ok (.laload, 1) := by decide +kernel
theorem dX1_groupSquares_118 : decode cX1_groupSquares 118 = .ok (.lconst 1, 1) := by decide +kernel
theorem dX1_groupSquares_119 : decode cX1_groupSquares 119 = .ok (.iload_n 2, 1) := by decide +kernel
theorem dX1_groupSquares_120 : decode cX1_groupSquares 120 = .ok (.lshl, 1) := by decide +kernel
theorem dX1_groupSquares_121 : decode cX1_groupSquares 121 = .ok (.lor, 1) := by decide +kernel
theorem dX1_groupSquares_122 : decode cX1_groupSquares 122 = .ok (.lastore, 1) := by decide +kernel
theorem dX1_groupSquares_123 : decode cX1_groupSquares 123 = .ok (.aload_n 0, 1) := by decide +kernel
theorem dX1_groupSquares_124 : decode cX1_groupSquares 124 = .ok (.getfield 21, 3) := by decide +kernel
theorem dX1_groupSquares_127 : decode cX1_groupSquares 127 = .ok (.iconst 0, 1) := by decide +kernel
theorem dX1_groupSquares_128 : decode cX1_groupSquares 128 = .ok (.dup2, 1) := by decide +kernel
theorem dX1_groupSquares_129 : decode cX1_groupSquares 129 = .ok (.laload, 1) := by decide +kernel
theorem dX1_groupSquares_130 : decode cX1_groupSquares 130 = .ok (.lconst 1, 1) := by decide +kernel
theorem dX1_groupSquares_131 : decode cX1_groupSquares 131 = .ok (.iload_n 2, 1) := by decide +kernel
theorem dX1_groupSquares_132 : decode cX1_groupSquares 132 = .ok (.lshl, 1) := by decide +kernel
theorem dX1_groupSquares_133 : decode cX1_groupSquares 133 = .ok (.ldc2_w 86, 3) := by decide +kernel
theorem dX1_groupSquares_136 : decode cX1_groupSquares 136 = .ok (.lxor, 1) := by decide +kernel
theorem dX1_groupSquares_137 : decode cX1_groupSquares 137 = .ok (.land, 1) := by decide +kernel
theorem dX1_groupSquares_138 : decode cX1_groupSquares 138 = .ok (.lastore, 1) := by decide +kernel
theorem dX1_groupSquares_139 : decode cX1_groupSquares 139 = .ok (.iinc 2 1, 3) := by decide +kernel
theorem dX1_groupSquares_142 : decode cX1_groupSquares 142 = .ok (.goto (-119), 3) := by decide +kernel
theorem dX1_groupSquares_145 : decode cX1_groupSquares 145 = .ok (.return_, 1) := by decide +kernel
theorem dX1_countLayings_0 : decode cX1_countLayings 0 = .ok (.iconst 0, 1) := by decide +kernel
theorem dX1_countLayings_1 : decode cX1_countLayings 1 = .ok (.istore_n 2, 1) := by decide +kernel
theorem dX1_countLayings_2 : decode cX1_countLayings 2 = .ok (.iconst 0, 1) := by decide +kernel
theorem dX1_countLayings_3 : decode cX1_countLayings 3 = .ok (.istore_n 3, 1) := by decide +kernel
theorem dX1_countLayings_4 : decode cX1_countLayings 4 = .ok (.iconst 0, 1) := by decide +kernel
theorem dX1_countLayings_5 : decode cX1_countLayings 5 = .ok (.istore 4, 2) := by decide +kernel
theorem dX1_countLayings_7 : decode cX1_countLayings 7 = .ok (.iconst 0, 1) := by decide +kernel
theorem dX1_countLayings_8 : decode cX1_countLayings 8 = .ok (.istore 5, 2) := by decide +kernel
theorem dX1_countLayings_10 : decode cX1_countLayings 10 = .ok (.iload 5, 2) := by decide +kernel
theorem dX1_countLayings_12 : decode cX1_countLayings 12 = .ok (.aload_n 1, 1) := by decide +kernel
theorem dX1_countLayings_13 : decode cX1_countLayings 13 = .ok (.invokevirtual 88, 3) := by decide +kernel
theorem dX1_countLayings_16 : decode cX1_countLayings 16 = .ok (.if_icmp .ge 53, 3) := by decide +kernel
theorem dX1_countLayings_19 : decode cX1_countLayings 19 = .ok (.aload_n 0, 1) := by decide +kernel
theorem dX1_countLayings_20 : decode cX1_countLayings 20 = .ok (.getfield 15, 3) := by decide +kernel
theorem dX1_countLayings_23 : decode cX1_countLayings 23 = .ok (.aload_n 1, 1) := by decide +kernel
theorem dX1_countLayings_24 : decode cX1_countLayings 24 = .ok (.iload 5, 2) := by decide +kernel
theorem dX1_countLayings_26 : decode cX1_countLayings 26 = .ok (.invokevirtual 91, 3) := by decide +kernel
theorem dX1_countLayings_29 : decode cX1_countLayings 29 = .ok (.bipush 36, 2) := by decide +kernel
theorem dX1_countLayings_31 : decode cX1_countLayings 31 = .ok (.imul, 1) := by decide +kernel
theorem dX1_countLayings_32 : decode cX1_countLayings 32 = .ok (.aload_n 1, 1) := by decide +kernel
theorem dX1_countLayings_33 : decode cX1_countLayings 33 = .ok (.iload 5, 2) := by decide +kernel
theorem dX1_countLayings_35 : decode cX1_countLayings 35 = .ok (.invokevirtual 94, 3) := by decide +kernel
theorem dX1_countLayings_38 : decode cX1_countLayings 38 = .ok (.iadd, 1) := by decide +kernel
theorem dX1_countLayings_39 : decode cX1_countLayings 39 = .ok (.iaload, 1) := by decide +kernel
theorem dX1_countLayings_40 : decode cX1_countLayings 40 = .ok (.istore 6, 2) := by decide +kernel
theorem dX1_countLayings_42 : decode cX1_countLayings 42 = .ok (.iload 4, 2) := by decide +kernel
theorem dX1_countLayings_44 : decode cX1_countLayings 44 = .ok (.iload_n 3, 1) := by decide +kernel
theorem dX1_countLayings_45 : decode cX1_countLayings 45 = .ok (.iload 6, 2) := by decide +kernel
theorem dX1_countLayings_47 : decode cX1_countLayings 47 = .ok (.iand, 1) := by decide +kernel
theorem dX1_countLayings_48 : decode cX1_countLayings 48 = .ok (.ior, 1) := by decide +kernel
theorem dX1_countLayings_49 : decode cX1_countLayings 49 = .ok (.istore 4, 2) := by decide +kernel
theorem dX1_countLayings_51 : decode cX1_countLayings 51 = .ok (.iload_n 3, 1) := by decide +kernel
theorem dX1_countLayings_52 : decode cX1_countLayings 52 = .ok (.iload_n 2, 1) := by decide +kernel
theorem dX1_countLayings_53 : decode cX1_countLayings 53 = .ok (.iload 6, 2) := by decide +kernel
theorem dX1_countLayings_55 : decode cX1_countLayings 55 = .ok (.iand, 1) := by decide +kernel
theorem dX1_countLayings_56 : decode cX1_countLayings 56 = .ok (.ior, 1) := by decide +kernel
theorem dX1_countLayings_57 : decode cX1_countLayings 57 = .ok (.istore_n 3, 1) := by decide +kernel
theorem dX1_countLayings_58 : decode cX1_countLayings 58 = .ok (.iload_n 2, 1) := by decide +kernel
theorem dX1_countLayings_59 : decode cX1_countLayings 59 = .ok (.iload 6, 2) := by decide +kernel
theorem dX1_countLayings_61 : decode cX1_countLayings 61 = .ok (.ior, 1) := by decide +kernel
theorem dX1_countLayings_62 : decode cX1_countLayings 62 = .ok (.istore_n 2, 1) := by decide +kernel
theorem dX1_countLayings_63 : decode cX1_countLayings 63 = .ok (.iinc 5 1, 3) := by decide +kernel
theorem dX1_countLayings_66 : decode cX1_countLayings 66 = .ok (.goto (-56), 3) := by decide +kernel
theorem dX1_countLayings_69 : decode cX1_countLayings 69 = .ok (.aload_n 0, 1) := by decide +kernel
theorem dX1_countLayings_70 : decode cX1_countLayings 70 = .ok (.iload_n 2, 1) := by decide +kernel
theorem dX1_countLayings_71 : decode cX1_countLayings 71 = .ok (.iload_n 3, 1) := by decide +kernel
theorem dX1_countLayings_72 : decode cX1_countLayings 72 = .ok (.iload 4, 2) := by decide +kernel
theorem dX1_countLayings_74 : decode cX1_countLayings 74 = .ok (.iconst 0, 1) := by decide +kernel
theorem dX1_countLayings_75 : decode cX1_countLayings 75 = .ok (.invokevirtual 97, 3) := by decide +kernel
theorem dX1_countLayings_78 : decode cX1_countLayings 78 = .ok (.istore 5, 2) := by decide +kernel
theorem dX1_countLayings_80 : decode cX1_countLayings 80 = .ok (.aload_n 0, 1) := by decide +kernel
theorem dX1_countLayings_81 : decode cX1_countLayings 81 = .ok (.iconst (-1), 1) := by decide +kernel
theorem dX1_countLayings_82 : decode cX1_countLayings 82 = .ok (.iload_n 2, 1) := by decide +kernel
theorem dX1_countLayings_83 : decode cX1_countLayings 83 = .ok (.iload_n 3, 1) := by decide +kernel
theorem dX1_countLayings_84 : decode cX1_countLayings 84 = .ok (.iload 4, 2) := by decide +kernel
theorem dX1_countLayings_86 : decode cX1_countLayings 86 = .ok (.invokevirtual 97, 3) := by decide +kernel
theorem dX1_countLayings_89 : decode cX1_countLayings 89 = .ok (.istore 6, 2) := by decide +kernel
theorem dX1_countLayings_91 : decode cX1_countLayings 91 = .ok (.iconst 0, 1) := by decide +kernel
theorem dX1_countLayings_92 : decode cX1_countLayings 92 = .ok (.istore 7, 2) := by decide +kernel
theorem dX1_countLayings_94 : decode cX1_countLayings 94 = .ok (.iload 7, 2) := by decide +kernel
theorem dX1_countLayings_96 : decode cX1_countLayings 96 = .ok (.aload_n 0, 1) := by decide +kernel
theorem dX1_countLayings_97 : decode cX1_countLayings 97 = .ok (.getfield 83, 3) := by decide +kernel
theorem dX1_countLayings_100 : decode cX1_countLayings 100 = .ok (.if_icmp .ge 59, 3) := by decide +kernel
theorem dX1_countLayings_103 : decode cX1_countLayings 103 = .ok (.aload_n 1, 1) := by decide +kernel
theorem dX1_countLayings_104 : decode cX1_countLayings 104 = .ok (.getfield 101, 3) := by decide +kernel
theorem dX1_countLayings_107 : decode cX1_countLayings 107 = .ok (.aload_n 0, 1) := by decide +kernel
theorem dX1_countLayings_108 : decode cX1_countLayings 108 = .ok (.getfield 21, 3) := by decide +kernel
theorem dX1_countLayings_111 : decode cX1_countLayings 111 = .ok (.iload 7, 2) := by decide +kernel
theorem dX1_countLayings_113 : decode cX1_countLayings 113 = .ok (.laload, 1) := by decide +kernel
theorem dX1_countLayings_114 : decode cX1_countLayings 114 = .ok (.land, 1) := by decide +kernel
theorem dX1_countLayings_115 : decode cX1_countLayings 115 = .ok (.invokestatic 105, 3) := by decide +kernel
theorem dX1_countLayings_118 : decode cX1_countLayings 118 = .ok (.istore 8, 2) := by decide +kernel
theorem dX1_countLayings_120 : decode cX1_countLayings 120 = .ok (.aload_n 0, 1) := by decide +kernel
theorem dX1_countLayings_121 : decode cX1_countLayings 121 = .ok (.getfield 11, 3) := by decide +kernel
theorem dX1_countLayings_124 : decode cX1_countLayings 124 = .ok (.iload 5, 2) := by decide +kernel
theorem dX1_countLayings_126 : decode cX1_countLayings 126 = .ok (.aload_n 0, 1) := by decide +kernel
theorem dX1_countLayings_127 : decode cX1_countLayings 127 = .ok (.getfield 25, 3) := by decide +kernel
theorem dX1_countLayings_130 : decode cX1_countLayings 130 = .ok (.iload 7, 2) := by decide +kernel
theorem dX1_countLayings_132 : decode cX1_countLayings 132 = .ok (.iaload, 1) := by decide +kernel
theorem dX1_countLayings_133 : decode cX1_countLayings 133 = .ok (.iconst (-1), 1) := by decide +kernel
theorem dX1_countLayings_134 : decode cX1_countLayings 134 = .ok (.ixor, 1) := by decide +kernel
theorem dX1_countLayings_135 : decode cX1_countLayings 135 = .ok (.iand, 1) := by decide +kernel
theorem dX1_countLayings_136 : decode cX1_countLayings 136 = .ok (.iload 6, 2) := by decide +kernel
theorem dX1_countLayings_138 : decode cX1_countLayings 138 = .ok (.aload_n 0, 1) := by decide +kernel
theorem dX1_countLayings_139 : decode cX1_countLayings 139 = .ok (.getfield 25, 3) := by decide +kernel
theorem dX1_countLayings_142 : decode cX1_countLayings 142 = .ok (.iload 7, 2) := by decide +kernel
theorem dX1_countLayings_144 : decode cX1_countLayings 144 = .ok (.iaload, 1) := by decide +kernel
theorem dX1_countLayings_145 : decode cX1_countLayings 145 = .ok (.iand, 1) := by decide +kernel
theorem dX1_countLayings_146 : decode cX1_countLayings 146 = .ok (.ior, 1) := by decide +kernel
theorem dX1_countLayings_147 : decode cX1_countLayings 147 = .ok (.dup2, 1) := by decide +kernel
theorem dX1_countLayings_148 : decode cX1_countLayings 148 = .ok (.iaload, 1) := by decide +kernel
theorem dX1_countLayings_149 : decode cX1_countLayings 149 = .ok (.iload 8, 2) := by decide +kernel
theorem dX1_countLayings_151 : decode cX1_countLayings 151 = .ok (.iadd, 1) := by decide +kernel
theorem dX1_countLayings_152 : decode cX1_countLayings 152 = .ok (.iastore, 1) := by decide +kernel
theorem dX1_countLayings_153 : decode cX1_countLayings 153 = .ok (.iinc 7 1, 3) := by decide +kernel
theorem dX1_countLayings_156 : decode cX1_countLayings 156 = .ok (.goto (-62), 3) := by decide +kernel
theorem dX1_countLayings_159 : decode cX1_countLayings 159 = .ok (.return_, 1) := by decide +kernel
theorem dX1_fitting_0 : decode cX1_fitting 0 = .ok (.aload_n 0, 1) := by decide +kernel
theorem dX1_fitting_1 : decode cX1_fitting 1 = .ok (.getfield 18, 3) := by decide +kernel
theorem dX1_fitting_4 : decode cX1_fitting 4 = .ok (.iconst 4, 1) := by decide +kernel
theorem dX1_fitting_5 : decode cX1_fitting 5 = .ok (.iaload, 1) := by decide +kernel
theorem dX1_fitting_6 : decode cX1_fitting 6 = .ok (.iload_n 1, 1) := by decide +kernel
theorem dX1_fitting_7 : decode cX1_fitting 7 = .ok (.iand, 1) := by decide +kernel
theorem dX1_fitting_8 : decode cX1_fitting 8 = .ok (.aload_n 0, 1) := by decide +kernel
theorem dX1_fitting_9 : decode cX1_fitting 9 = .ok (.getfield 18, 3) := by decide +kernel
theorem dX1_fitting_12 : decode cX1_fitting 12 = .ok (.iconst 0, 1) := by decide +kernel
theorem dX1_fitting_13 : decode cX1_fitting 13 = .ok (.iaload, 1) := by decide +kernel
theorem dX1_fitting_14 : decode cX1_fitting 14 = .ok (.iload_n 1, 1) := by decide +kernel
theorem dX1_fitting_15 : decode cX1_fitting 15 = .ok (.iconst (-1), 1) := by decide +kernel
theorem dX1_fitting_16 : decode cX1_fitting 16 = .ok (.ixor, 1) := by decide +kernel
theorem dX1_fitting_17 : decode cX1_fitting 17 = .ok (.iand, 1) := by decide +kernel
theorem dX1_fitting_18 : decode cX1_fitting 18 = .ok (.ior, 1) := by decide +kernel
theorem dX1_fitting_19 : decode cX1_fitting 19 = .ok (.aload_n 0, 1) := by decide +kernel
theorem dX1_fitting_20 : decode cX1_fitting 20 = .ok (.getfield 18, 3) := by decide +kernel
theorem dX1_fitting_23 : decode cX1_fitting 23 = .ok (.iconst 1, 1) := by decide +kernel
theorem dX1_fitting_24 : decode cX1_fitting 24 = .ok (.iaload, 1) := by decide +kernel
theorem dX1_fitting_25 : decode cX1_fitting 25 = .ok (.iload_n 2, 1) := by decide +kernel
theorem dX1_fitting_26 : decode cX1_fitting 26 = .ok (.iconst (-1), 1) := by decide +kernel
theorem dX1_fitting_27 : decode cX1_fitting 27 = .ok (.ixor, 1) := by decide +kernel
theorem dX1_fitting_28 : decode cX1_fitting 28 = .ok (.iand, 1) := by decide +kernel
theorem dX1_fitting_29 : decode cX1_fitting 29 = .ok (.ior, 1) := by decide +kernel
theorem dX1_fitting_30 : decode cX1_fitting 30 = .ok (.aload_n 0, 1) := by decide +kernel
theorem dX1_fitting_31 : decode cX1_fitting 31 = .ok (.getfield 18, 3) := by decide +kernel
theorem dX1_fitting_34 : decode cX1_fitting 34 = .ok (.iconst 2, 1) := by decide +kernel
theorem dX1_fitting_35 : decode cX1_fitting 35 = .ok (.iaload, 1) := by decide +kernel
theorem dX1_fitting_36 : decode cX1_fitting 36 = .ok (.iload_n 3, 1) := by decide +kernel
theorem dX1_fitting_37 : decode cX1_fitting 37 = .ok (.iconst (-1), 1) := by decide +kernel
theorem dX1_fitting_38 : decode cX1_fitting 38 = .ok (.ixor, 1) := by decide +kernel
theorem dX1_fitting_39 : decode cX1_fitting 39 = .ok (.iand, 1) := by decide +kernel
theorem dX1_fitting_40 : decode cX1_fitting 40 = .ok (.ior, 1) := by decide +kernel
theorem dX1_fitting_41 : decode cX1_fitting 41 = .ok (.aload_n 0, 1) := by decide +kernel
theorem dX1_fitting_42 : decode cX1_fitting 42 = .ok (.getfield 18, 3) := by decide +kernel
theorem dX1_fitting_45 : decode cX1_fitting 45 = .ok (.iconst 3, 1) := by decide +kernel
theorem dX1_fitting_46 : decode cX1_fitting 46 = .ok (.iaload, 1) := by decide +kernel
theorem dX1_fitting_47 : decode cX1_fitting 47 = .ok (.iload 4, 2) := by decide +kernel
theorem dX1_fitting_49 : decode cX1_fitting 49 = .ok (.iconst (-1), 1) := by decide +kernel
theorem dX1_fitting_50 : decode cX1_fitting 50 = .ok (.ixor, 1) := by decide +kernel
theorem dX1_fitting_51 : decode cX1_fitting 51 = .ok (.iand, 1) := by decide +kernel
theorem dX1_fitting_52 : decode cX1_fitting 52 = .ok (.ior, 1) := by decide +kernel
theorem dX1_fitting_53 : decode cX1_fitting 53 = .ok (.ireturn, 1) := by decide +kernel
theorem dX1_addSupersets_0 : decode cX1_addSupersets 0 = .ok (.iconst 0, 1) := by decide +kernel
theorem dX1_addSupersets_1 : decode cX1_addSupersets 1 = .ok (.istore_n 1, 1) := by decide +kernel
theorem dX1_addSupersets_2 : decode cX1_addSupersets 2 = .ok (.iload_n 1, 1) := by decide +kernel
theorem dX1_addSupersets_3 : decode cX1_addSupersets 3 = .ok (.bipush 10, 2) := by decide +kernel
theorem dX1_addSupersets_5 : decode cX1_addSupersets 5 = .ok (.if_icmp .ge 51, 3) := by decide +kernel
theorem dX1_addSupersets_8 : decode cX1_addSupersets 8 = .ok (.iconst 0, 1) := by decide +kernel
theorem dX1_addSupersets_9 : decode cX1_addSupersets 9 = .ok (.istore_n 2, 1) := by decide +kernel
theorem dX1_addSupersets_10 : decode cX1_addSupersets 10 = .ok (.iload_n 2, 1) := by decide +kernel
theorem dX1_addSupersets_11 : decode cX1_addSupersets 11 = .ok (.sipush 1024, 3) := by decide +kernel
theorem dX1_addSupersets_14 : decode cX1_addSupersets 14 = .ok (.if_icmp .ge 36, 3) := by decide +kernel
theorem dX1_addSupersets_17 : decode cX1_addSupersets 17 = .ok (.iload_n 2, 1) := by decide +kernel
theorem dX1_addSupersets_18 : decode cX1_addSupersets 18 = .ok (.iload_n 1, 1) := by decide +kernel
theorem dX1_addSupersets_19 : decode cX1_addSupersets 19 = .ok (.ishr, 1) := by decide +kernel
theorem dX1_addSupersets_20 : decode cX1_addSupersets 20 = .ok (.iconst 1, 1) := by decide +kernel
theorem dX1_addSupersets_21 : decode cX1_addSupersets 21 = .ok (.iand, 1) := by decide +kernel
theorem dX1_addSupersets_22 : decode cX1_addSupersets 22 = .ok (.ifCond .ne 22, 3) := by decide +kernel
theorem dX1_addSupersets_25 : decode cX1_addSupersets 25 = .ok (.aload_n 0, 1) := by decide +kernel
theorem dX1_addSupersets_26 : decode cX1_addSupersets 26 = .ok (.getfield 11, 3) := by decide +kernel
theorem dX1_addSupersets_29 : decode cX1_addSupersets 29 = .ok (.iload_n 2, 1) := by decide +kernel
theorem dX1_addSupersets_30 : decode cX1_addSupersets 30 = .ok (.dup2, 1) := by decide +kernel
theorem dX1_addSupersets_31 : decode cX1_addSupersets 31 = .ok (.iaload, 1) := by decide +kernel
theorem dX1_addSupersets_32 : decode cX1_addSupersets 32 = .ok (.aload_n 0, 1) := by decide +kernel
theorem dX1_addSupersets_33 : decode cX1_addSupersets 33 = .ok (.getfield 11, 3) := by decide +kernel
theorem dX1_addSupersets_36 : decode cX1_addSupersets 36 = .ok (.iload_n 2, 1) := by decide +kernel
theorem dX1_addSupersets_37 : decode cX1_addSupersets 37 = .ok (.iconst 1, 1) := by decide +kernel
theorem dX1_addSupersets_38 : decode cX1_addSupersets 38 = .ok (.iload_n 1, 1) := by decide +kernel
theorem dX1_addSupersets_39 : decode cX1_addSupersets 39 = .ok (.ishl, 1) := by decide +kernel
theorem dX1_addSupersets_40 : decode cX1_addSupersets 40 = .ok (.ior, 1) := by decide +kernel
theorem dX1_addSupersets_41 : decode cX1_addSupersets 41 = .ok (.iaload, 1) := by decide +kernel
theorem dX1_addSupersets_42 : decode cX1_addSupersets 42 = .ok (.iadd, 1) := by decide +kernel
theorem dX1_addSupersets_43 : decode cX1_addSupersets 43 = .ok (.iastore, 1) := by decide +kernel
theorem dX1_addSupersets_44 : decode cX1_addSupersets 44 = .ok (.iinc 2 1, 3) := by decide +kernel
theorem dX1_addSupersets_47 : decode cX1_addSupersets 47 = .ok (.goto (-37), 3) := by decide +kernel
theorem dX1_addSupersets_50 : decode cX1_addSupersets 50 = .ok (.iinc 1 1, 3) := by decide +kernel
theorem dX1_addSupersets_53 : decode cX1_addSupersets 53 = .ok (.goto (-51), 3) := by decide +kernel
theorem dX1_addSupersets_56 : decode cX1_addSupersets 56 = .ok (.return_, 1) := by decide +kernel
theorem dX1_fewestThatSayAsMuch_0 : decode cX1_fewestThatSayAsMuch 0 = .ok (.iload_n 1, 1) := by decide +kernel
theorem dX1_fewestThatSayAsMuch_1 : decode cX1_fewestThatSayAsMuch 1 = .ok (.istore_n 2, 1) := by decide +kernel
theorem dX1_fewestThatSayAsMuch_2 : decode cX1_fewestThatSayAsMuch 2 = .ok (.iconst 0, 1) := by decide +kernel
theorem dX1_fewestThatSayAsMuch_3 : decode cX1_fewestThatSayAsMuch 3 = .ok (.istore_n 3, 1) := by decide +kernel
theorem dX1_fewestThatSayAsMuch_4 : decode cX1_fewestThatSayAsMuch 4 = .ok (.iload_n 3, 1) := by decide +kernel
theorem dX1_fewestThatSayAsMuch_5 : decode cX1_fewestThatSayAsMuch 5 = .ok (.iload_n 1, 1) := by decide +kernel
theorem dX1_fewestThatSayAsMuch_6 : decode cX1_fewestThatSayAsMuch 6 = .ok (.if_icmp .ge 42, 3) := by decide +kernel
theorem dX1_fewestThatSayAsMuch_9 : decode cX1_fewestThatSayAsMuch 9 = .ok (.iload_n 3, 1) := by decide +kernel
theorem dX1_fewestThatSayAsMuch_10 : decode cX1_fewestThatSayAsMuch 10 = .ok (.iload_n 1, 1) := by decide +kernel
theorem dX1_fewestThatSayAsMuch_11 : decode cX1_fewestThatSayAsMuch 11 = .ok (.iconst (-1), 1) := by decide +kernel
theorem dX1_fewestThatSayAsMuch_12 : decode cX1_fewestThatSayAsMuch 12 = .ok (.ixor, 1) := by decide +kernel
theorem dX1_fewestThatSayAsMuch_13 : decode cX1_fewestThatSayAsMuch 13 = .ok (.iand, 1) := by decide +kernel
theorem dX1_fewestThatSayAsMuch_14 : decode cX1_fewestThatSayAsMuch 14 = .ok (.ifCond .ne 28, 3) := by decide +kernel
theorem dX1_fewestThatSayAsMuch_17 : decode cX1_fewestThatSayAsMuch 17 = .ok (.aload_n 0, 1) := by decide +kernel
theorem dX1_fewestThatSayAsMuch_18 : decode cX1_fewestThatSayAsMuch 18 = .ok (.getfield 11, 3) := by decide +kernel
theorem dX1_fewestThatSayAsMuch_21 : decode cX1_fewestThatSayAsMuch 21 = .ok (.iload_n 3, 1) := by decide +kernel
theorem dX1_fewestThatSayAsMuch_22 : decode cX1_fewestThatSayAsMuch 22 = .ok (.iaload, 1) := by decide +kernel
theorem dX1_fewestThatSayAsMuch_23 : decode cX1_fewestThatSayAsMuch 23 = .ok (.aload_n 0, 1) := by decide +kernel
theorem dX1_fewestThatSayAsMuch_24 : decode cX1_fewestThatSayAsMuch 24 = .ok (.getfield 11, 3) := by decide +kernel
theorem dX1_fewestThatSayAsMuch_27 : decode cX1_fewestThatSayAsMuch 27 = .ok (.iload_n 1, 1) := by decide +kernel
theorem dX1_fewestThatSayAsMuch_28 : decode cX1_fewestThatSayAsMuch 28 = .ok (.iaload, 1) := by decide +kernel
theorem dX1_fewestThatSayAsMuch_29 : decode cX1_fewestThatSayAsMuch 29 = .ok (.if_icmp .ne 13, 3) := by decide +kernel
theorem dX1_fewestThatSayAsMuch_32 : decode cX1_fewestThatSayAsMuch 32 = .ok (.iload_n 3, 1) := by decide +kernel
theorem dX1_fewestThatSayAsMuch_33 : decode cX1_fewestThatSayAsMuch 33 = .ok (.iload_n 2, 1) := by decide +kernel
theorem dX1_fewestThatSayAsMuch_34 : decode cX1_fewestThatSayAsMuch 34 = .ok (.invokestatic 111, 3) := by decide +kernel
theorem dX1_fewestThatSayAsMuch_37 : decode cX1_fewestThatSayAsMuch 37 = .ok (.ifCond .eq 5, 3) := by decide +kernel
theorem dX1_fewestThatSayAsMuch_40 : decode cX1_fewestThatSayAsMuch 40 = .ok (.iload_n 3, 1) := by decide +kernel
theorem dX1_fewestThatSayAsMuch_41 : decode cX1_fewestThatSayAsMuch 41 = .ok (.istore_n 2, 1) := by decide +kernel
theorem dX1_fewestThatSayAsMuch_42 : decode cX1_fewestThatSayAsMuch 42 = .ok (.iinc 3 1, 3) := by decide +kernel
theorem dX1_fewestThatSayAsMuch_45 : decode cX1_fewestThatSayAsMuch 45 = .ok (.goto (-41), 3) := by decide +kernel
theorem dX1_fewestThatSayAsMuch_48 : decode cX1_fewestThatSayAsMuch 48 = .ok (.iload_n 2, 1) := by decide +kernel
theorem dX1_fewestThatSayAsMuch_49 : decode cX1_fewestThatSayAsMuch 49 = .ok (.ireturn, 1) := by decide +kernel
theorem dX1_fewestToLeaveOut_0 : decode cX1_fewestToLeaveOut 0 = .ok (.bipush (-2), 2) := by decide +kernel
theorem dX1_fewestToLeaveOut_2 : decode cX1_fewestToLeaveOut 2 = .ok (.istore_n 2, 1) := by decide +kernel
theorem dX1_fewestToLeaveOut_3 : decode cX1_fewestToLeaveOut 3 = .ok (.iconst 0, 1) := by decide +kernel
theorem dX1_fewestToLeaveOut_4 : decode cX1_fewestToLeaveOut 4 = .ok (.istore_n 3, 1) := by decide +kernel
theorem dX1_fewestToLeaveOut_5 : decode cX1_fewestToLeaveOut 5 = .ok (.iload_n 3, 1) := by decide +kernel
theorem dX1_fewestToLeaveOut_6 : decode cX1_fewestToLeaveOut 6 = .ok (.iload_n 1, 1) := by decide +kernel
theorem dX1_fewestToLeaveOut_7 : decode cX1_fewestToLeaveOut 7 = .ok (.if_icmp .gt 38, 3) := by decide +kernel
theorem dX1_fewestToLeaveOut_10 : decode cX1_fewestToLeaveOut 10 = .ok (.iload_n 3, 1) := by decide +kernel
theorem dX1_fewestToLeaveOut_11 : decode cX1_fewestToLeaveOut 11 = .ok (.iload_n 1, 1) := by decide +kernel
theorem dX1_fewestToLeaveOut_12 : decode cX1_fewestToLeaveOut 12 = .ok (.iconst (-1), 1) := by decide +kernel
theorem dX1_fewestToLeaveOut_13 : decode cX1_fewestToLeaveOut 13 = .ok (.ixor, 1) := by decide +kernel
theorem dX1_fewestToLeaveOut_14 : decode cX1_fewestToLeaveOut 14 = .ok (.iand, 1) := by decide +kernel
theorem dX1_fewestToLeaveOut_15 : decode cX1_fewestToLeaveOut 15 = .ok (.ifCond .ne 24, 3) := by decide +kernel
theorem dX1_fewestToLeaveOut_18 : decode cX1_fewestToLeaveOut 18 = .ok (.aload_n 0, 1) := by decide +kernel
theorem dX1_fewestToLeaveOut_19 : decode cX1_fewestToLeaveOut 19 = .ok (.getfield 11, 3) := by decide +kernel
theorem dX1_fewestToLeaveOut_22 : decode cX1_fewestToLeaveOut 22 = .ok (.iload_n 1, 1) := by decide +kernel
theorem dX1_fewestToLeaveOut_23 : decode cX1_fewestToLeaveOut 23 = .ok (.iload_n 3, 1) := by decide +kernel
theorem dX1_fewestToLeaveOut_24 : decode cX1_fewestToLeaveOut 24 = .ok (.ixor, 1) := by decide +kernel
theorem dX1_fewestToLeaveOut_25 : decode cX1_fewestToLeaveOut 25 = .ok (.iaload, 1) := by decide +kernel
theorem dX1_fewestToLeaveOut_26 : decode cX1_fewestToLeaveOut 26 = .ok (.ifCond .le 13, 3) := by decide +kernel
theorem dX1_fewestToLeaveOut_29 : decode cX1_fewestToLeaveOut 29 = .ok (.iload_n 3, 1) := by decide +kernel
theorem dX1_fewestToLeaveOut_30 : decode cX1_fewestToLeaveOut 30 = .ok (.iload_n 2, 1) := by decide +kernel
theorem dX1_fewestToLeaveOut_31 : decode cX1_fewestToLeaveOut 31 = .ok (.invokestatic 111, 3) := by decide +kernel
theorem dX1_fewestToLeaveOut_34 : decode cX1_fewestToLeaveOut 34 = .ok (.ifCond .eq 5, 3) := by decide +kernel
theorem dX1_fewestToLeaveOut_37 : decode cX1_fewestToLeaveOut 37 = .ok (.iload_n 3, 1) := by decide +kernel
theorem dX1_fewestToLeaveOut_38 : decode cX1_fewestToLeaveOut 38 = .ok (.istore_n 2, 1) := by decide +kernel
theorem dX1_fewestToLeaveOut_39 : decode cX1_fewestToLeaveOut 39 = .ok (.iinc 3 1, 3) := by decide +kernel
theorem dX1_fewestToLeaveOut_42 : decode cX1_fewestToLeaveOut 42 = .ok (.goto (-37), 3) := by decide +kernel
theorem dX1_fewestToLeaveOut_45 : decode cX1_fewestToLeaveOut 45 = .ok (.iload_n 2, 1) := by decide +kernel
theorem dX1_fewestToLeaveOut_46 : decode cX1_fewestToLeaveOut 46 = .ok (.ireturn, 1) := by decide +kernel
theorem dX1_fewestToDistrust_0 : decode cX1_fewestToDistrust 0 = .ok (.bipush (-2), 2) := by decide +kernel
theorem dX1_fewestToDistrust_2 : decode cX1_fewestToDistrust 2 = .ok (.istore_n 3, 1) := by decide +kernel
theorem dX1_fewestToDistrust_3 : decode cX1_fewestToDistrust 3 = .ok (.iconst 0, 1) := by decide +kernel
theorem dX1_fewestToDistrust_4 : decode cX1_fewestToDistrust 4 = .ok (.istore 4, 2) := by decide +kernel
theorem dX1_fewestToDistrust_6 : decode cX1_fewestToDistrust 6 = .ok (.iload 4, 2) := by decide +kernel
theorem dX1_fewestToDistrust_8 : decode cX1_fewestToDistrust 8 = .ok (.bipush 64, 2) := by decide +kernel
theorem dX1_fewestToDistrust_10 : decode cX1_fewestToDistrust 10 = .ok (.if_icmp .ge 36, 3) := by decide +kernel
theorem dX1_fewestToDistrust_13 : decode cX1_fewestToDistrust 13 = .ok (.aload_n 0, 1) := by decide +kernel
theorem dX1_fewestToDistrust_14 : decode cX1_fewestToDistrust 14 = .ok (.getfield 11, 3) := by decide +kernel
theorem dX1_fewestToDistrust_17 : decode cX1_fewestToDistrust 17 = .ok (.aload_n 1, 1) := by decide +kernel
theorem dX1_fewestToDistrust_18 : decode cX1_fewestToDistrust 18 = .ok (.iload_n 2, 1) := by decide +kernel
theorem dX1_fewestToDistrust_19 : decode cX1_fewestToDistrust 19 = .ok (.iload 4, 2) := by decide +kernel
theorem dX1_fewestToDistrust_21 : decode cX1_fewestToDistrust 21 = .ok (.invokestatic 115, 3) := by decide +kernel
theorem dX1_fewestToDistrust_24 : decode cX1_fewestToDistrust 24 = .ok (.iaload, 1) := by decide +kernel
theorem dX1_fewestToDistrust_25 : decode cX1_fewestToDistrust 25 = .ok (.ifCond .le 15, 3) := by decide +kernel
theorem dX1_fewestToDistrust_28 : decode cX1_fewestToDistrust 28 = .ok (.iload 4, 2) := by decide +kernel
theorem dX1_fewestToDistrust_30 : decode cX1_fewestToDistrust 30 = .ok (.iload_n 3, 1) := by decide +kernel
theorem dX1_fewestToDistrust_31 : decode cX1_fewestToDistrust 31 = .ok (.invokestatic 111, 3) := by decide +kernel
theorem dX1_fewestToDistrust_34 : decode cX1_fewestToDistrust 34 = .ok (.ifCond .eq 6, 3) := by decide +kernel
theorem dX1_fewestToDistrust_37 : decode cX1_fewestToDistrust 37 = .ok (.iload 4, 2) := by decide +kernel
theorem dX1_fewestToDistrust_39 : decode cX1_fewestToDistrust 39 = .ok (.istore_n 3, 1) := by decide +kernel
theorem dX1_fewestToDistrust_40 : decode cX1_fewestToDistrust 40 = .ok (.iinc 4 1, 3) := by decide +kernel
theorem dX1_fewestToDistrust_43 : decode cX1_fewestToDistrust 43 = .ok (.goto (-37), 3) := by decide +kernel
theorem dX1_fewestToDistrust_46 : decode cX1_fewestToDistrust 46 = .ok (.iload_n 3, 1) := by decide +kernel
theorem dX1_fewestToDistrust_47 : decode cX1_fewestToDistrust 47 = .ok (.ireturn, 1) := by decide +kernel
theorem dX1_without_0 : decode cX1_without 0 = .ok (.iload_n 1, 1) := by decide +kernel
theorem dX1_without_1 : decode cX1_without 1 = .ok (.istore_n 3, 1) := by decide +kernel
theorem dX1_without_2 : decode cX1_without 2 = .ok (.iconst 0, 1) := by decide +kernel
theorem dX1_without_3 : decode cX1_without 3 = .ok (.istore 4, 2) := by decide +kernel
theorem dX1_without_5 : decode cX1_without 5 = .ok (.iload 4, 2) := by decide +kernel
theorem dX1_without_7 : decode cX1_without 7 = .ok (.aload_n 0, 1) := by decide +kernel
theorem dX1_without_8 : decode cX1_without 8 = .ok (.getfield 67, 3) := by decide +kernel
theorem dX1_without_11 : decode cX1_without 11 = .ok (.if_icmp .ge 31, 3) := by decide +kernel
theorem dX1_without_14 : decode cX1_without 14 = .ok (.iload_n 2, 1) := by decide +kernel
theorem dX1_without_15 : decode cX1_without 15 = .ok (.aload_n 0, 1) := by decide +kernel
theorem dX1_without_16 : decode cX1_without 16 = .ok (.iload 4, 2) := by decide +kernel
theorem dX1_without_18 : decode cX1_without 18 = .ok (.invokevirtual 119, 3) := by decide +kernel
theorem dX1_without_21 : decode cX1_without 21 = .ok (.ishr, 1) := by decide +kernel
theorem dX1_without_22 : decode cX1_without 22 = .ok (.iconst 1, 1) := by decide +kernel
theorem dX1_without_23 : decode cX1_without 23 = .ok (.iand, 1) := by decide +kernel
theorem dX1_without_24 : decode cX1_without 24 = .ok (.ifCond .eq 12, 3) := by decide +kernel
theorem dX1_without_27 : decode cX1_without 27 = .ok (.iload_n 3, 1) := by decide +kernel
theorem dX1_without_28 : decode cX1_without 28 = .ok (.iconst 1, 1) := by decide +kernel
theorem dX1_without_29 : decode cX1_without 29 = .ok (.iload 4, 2) := by decide +kernel
theorem dX1_without_31 : decode cX1_without 31 = .ok (.ishl, 1) := by decide +kernel
theorem dX1_without_32 : decode cX1_without 32 = .ok (.iconst (-1), 1) := by decide +kernel
theorem dX1_without_33 : decode cX1_without 33 = .ok (.ixor, 1) := by decide +kernel
theorem dX1_without_34 : decode cX1_without 34 = .ok (.iand, 1) := by decide +kernel
theorem dX1_without_35 : decode cX1_without 35 = .ok (.istore_n 3, 1) := by decide +kernel
theorem dX1_without_36 : decode cX1_without 36 = .ok (.iinc 4 1, 3) := by decide +kernel
theorem dX1_without_39 : decode cX1_without 39 = .ok (.goto (-34), 3) := by decide +kernel
theorem dX1_without_42 : decode cX1_without 42 = .ok (.iload_n 3, 1) := by decide +kernel
theorem dX1_without_43 : decode cX1_without 43 = .ok (.ireturn, 1) := by decide +kernel
theorem dX1_isFewer_0 : decode cX1_isFewer 0 = .ok (.iload_n 1, 1) := by decide +kernel
theorem dX1_isFewer_1 : decode cX1_isFewer 1 = .ok (.ifCond .lt 14, 3) := by decide +kernel
theorem dX1_isFewer_4 : decode cX1_isFewer 4 = .ok (.iload_n 0, 1) := by decide +kernel
theorem dX1_isFewer_5 : decode cX1_isFewer 5 = .ok (.invokestatic 122, 3) := by decide +kernel
theorem dX1_isFewer_8 : decode cX1_isFewer 8 = .ok (.iload_n 1, 1) := by decide +kernel
theorem dX1_isFewer_9 : decode cX1_isFewer 9 = .ok (.invokestatic 122, 3) := by decide +kernel
theorem dX1_isFewer_12 : decode cX1_isFewer 12 = .ok (.if_icmp .ge 7, 3) := by decide +kernel
theorem dX1_isFewer_15 : decode cX1_isFewer 15 = .ok (.iconst 1, 1) := by decide +kernel
theorem dX1_isFewer_16 : decode cX1_isFewer 16 = .ok (.goto 4, 3) := by decide +kernel
theorem dX1_isFewer_19 : decode cX1_isFewer 19 = .ok (.iconst 0, 1) := by decide +kernel
theorem dX1_isFewer_20 : decode cX1_isFewer 20 = .ok (.ireturn, 1) := by decide +kernel
theorem dX2_bit_0 : decode cX2_bit 0 = .ok (.lconst 1, 1) := by decide +kernel
theorem dX2_bit_1 : decode cX2_bit 1 = .ok (.bipush 6, 2) := by decide +kernel
theorem dX2_bit_3 : decode cX2_bit 3 = .ok (.iload_n 1, 1) := by decide +kernel
theorem dX2_bit_4 : decode cX2_bit 4 = .ok (.imul, 1) := by decide +kernel
theorem dX2_bit_5 : decode cX2_bit 5 = .ok (.iload_n 0, 1) := by decide +kernel
theorem dX2_bit_6 : decode cX2_bit 6 = .ok (.iadd, 1) := by decide +kernel
theorem dX2_bit_7 : decode cX2_bit 7 = .ok (.lshl, 1) := by decide +kernel
theorem dX2_bit_8 : decode cX2_bit 8 = .ok (.lreturn, 1) := by decide +kernel
theorem dX2_box_0 : decode cX2_box 0 = .ok (.lconst 0, 1) := by decide +kernel
theorem dX2_box_1 : decode cX2_box 1 = .ok (.lstore 4, 2) := by decide +kernel
theorem dX2_box_3 : decode cX2_box 3 = .ok (.iload_n 1, 1) := by decide +kernel
theorem dX2_box_4 : decode cX2_box 4 = .ok (.istore 6, 2) := by decide +kernel
theorem dX2_box_6 : decode cX2_box 6 = .ok (.iload 6, 2) := by decide +kernel
theorem dX2_box_8 : decode cX2_box 8 = .ok (.iload_n 3, 1) := by decide +kernel
theorem dX2_box_9 : decode cX2_box 9 = .ok (.if_icmp .gt 36, 3) := by decide +kernel
theorem dX2_box_12 : decode cX2_box 12 = .ok (.iload_n 0, 1) := by decide +kernel
theorem dX2_box_13 : decode cX2_box 13 = .ok (.istore 7, 2) := by decide +kernel
theorem dX2_box_15 : decode cX2_box 15 = .ok (.iload 7, 2) := by decide +kernel
theorem dX2_box_17 : decode cX2_box 17 = .ok (.iload_n 2, 1) := by decide +kernel
theorem dX2_box_18 : decode cX2_box 18 = .ok (.if_icmp .gt 21, 3) := by decide +kernel
theorem dX2_box_21 : decode cX2_box 21 = .ok (.lload 4, 2) := by decide +kernel
theorem dX2_box_23 : decode cX2_box 23 = .ok (.iload 7, 2) := by decide +kernel
theorem dX2_box_25 : decode cX2_box 25 = .ok (.iload 6, 2) := by decide +kernel
theorem dX2_box_27 : decode cX2_box 27 = .ok (.invokestatic 11, 3) := by decide +kernel
theorem dX2_box_30 : decode cX2_box 30 = .ok (.lor, 1) := by decide +kernel
theorem dX2_box_31 : decode cX2_box 31 = .ok (.lstore 4, 2) := by decide +kernel
theorem dX2_box_33 : decode cX2_box 33 = .ok (.iinc 7 1, 3) := by decide +kernel
theorem dX2_box_36 : decode cX2_box 36 = .ok (.goto (-21), 3) := by decide +kernel
theorem dX2_box_39 : decode cX2_box 39 = .ok (.iinc 6 1, 3) := by decide +kernel
theorem dX2_box_42 : decode cX2_box 42 = .ok (.goto (-36), 3) := by decide +kernel
theorem dX2_box_45 : decode cX2_box 45 = .ok (.lload 4, 2) := by decide +kernel
theorem dX2_box_47 : decode cX2_box 47 = .ok (.lreturn, 1) := by decide +kernel
theorem dX2_grow_0 : decode cX2_grow 0 = .ok (.lload_n 0, 1) := by decide +kernel
theorem dX2_grow_1 : decode cX2_grow 1 = .ok (.lload_n 0, 1) := by decide +kernel
theorem dX2_grow_2 : decode cX2_grow 2 = .ok (.ldc2_w 15, 3) := by decide +kernel
theorem dX2_grow_5 : decode cX2_grow 5 = .ok (.land, 1) := by decide +kernel
theorem dX2_grow_6 : decode cX2_grow 6 = .ok (.iconst 1, 1) := by decide +kernel
theorem dX2_grow_7 : decode cX2_grow 7 = .ok (.lshl, 1) := by decide +kernel
theorem dX2_grow_8 : decode cX2_grow 8 = .ok (.lor, 1) := by decide +kernel
theorem dX2_grow_9 : decode cX2_grow 9 = .ok (.lload_n 0, 1) := by decide +kernel
theorem dX2_grow_10 : decode cX2_grow 10 = .ok (.ldc2_w 17, 3) := by decide +kernel
theorem dX2_grow_13 : decode cX2_grow 13 = .ok (.land, 1) := by decide +kernel
theorem dX2_grow_14 : decode cX2_grow 14 = .ok (.iconst 1, 1) := by decide +kernel
theorem dX2_grow_15 : decode cX2_grow 15 = .ok (.lushr, 1) := by decide +kernel
theorem dX2_grow_16 : decode cX2_grow 16 = .ok (.lor, 1) := by decide +kernel
theorem dX2_grow_17 : decode cX2_grow 17 = .ok (.lstore_n 2, 1) := by decide +kernel
theorem dX2_grow_18 : decode cX2_grow 18 = .ok (.lload_n 2, 1) := by decide +kernel
theorem dX2_grow_19 : decode cX2_grow 19 = .ok (.lload_n 2, 1) := by decide +kernel
theorem dX2_grow_20 : decode cX2_grow 20 = .ok (.bipush 6, 2) := by decide +kernel
theorem dX2_grow_22 : decode cX2_grow 22 = .ok (.lshl, 1) := by decide +kernel
theorem dX2_grow_23 : decode cX2_grow 23 = .ok (.lor, 1) := by decide +kernel
theorem dX2_grow_24 : decode cX2_grow 24 = .ok (.lload_n 2, 1) := by decide +kernel
theorem dX2_grow_25 : decode cX2_grow 25 = .ok (.bipush 6, 2) := by decide +kernel
theorem dX2_grow_27 : decode cX2_grow 27 = .ok (.lushr, 1) := by decide +kernel
theorem dX2_grow_28 : decode cX2_grow 28 = .ok (.lor, 1) := by decide +kernel
theorem dX2_grow_29 : decode cX2_grow 29 = .ok (.ldc2_w 19, 3) := by decide +kernel
theorem dX2_grow_32 : decode cX2_grow 32 = .ok (.land, 1) := by decide +kernel
theorem dX2_grow_33 : decode cX2_grow 33 = .ok (.lreturn, 1) := by decide +kernel
theorem dX2_lowest_0 : decode cX2_lowest 0 = .ok (.lload_n 0, 1) := by decide +kernel
theorem dX2_lowest_1 : decode cX2_lowest 1 = .ok (.lload_n 0, 1) := by decide +kernel
theorem dX2_lowest_2 : decode cX2_lowest 2 = .ok (.lneg, 1) := by decide +kernel
theorem dX2_lowest_3 : decode cX2_lowest 3 = .ok (.land, 1) := by decide +kernel
theorem dX2_lowest_4 : decode cX2_lowest 4 = .ok (.lconst 1, 1) := by decide +kernel
theorem dX2_lowest_5 : decode cX2_lowest 5 = .ok (.lsub, 1) := by decide +kernel
theorem dX2_lowest_6 : decode cX2_lowest 6 = .ok (.invokestatic 21, 3) := by decide +kernel
theorem dX2_lowest_9 : decode cX2_lowest 9 = .ok (.ireturn, 1) := by decide +kernel
theorem dX3_init_0 : decode cX3_init 0 = .ok (.aload_n 0, 1) := by decide +kernel
theorem dX3_init_1 : decode cX3_init 1 = .ok (.invokespecial 3, 3) := by decide +kernel
theorem dX3_init_4 : decode cX3_init 4 = .ok (.aload_n 0, 1) := by decide +kernel
theorem dX3_init_5 : decode cX3_init 5 = .ok (.bipush 8, 2) := by decide +kernel
theorem dX3_init_7 : decode cX3_init 7 = .ok (.newarray .int, 2) := by decide +kernel
theorem dX3_init_9 : decode cX3_init 9 = .ok (.putfield 9, 3) := by decide +kernel
theorem dX3_init_12 : decode cX3_init 12 = .ok (.aload_n 0, 1) := by decide +kernel
theorem dX3_init_13 : decode cX3_init 13 = .ok (.bipush 8, 2) := by decide +kernel
theorem dX3_init_15 : decode cX3_init 15 = .ok (.newarray .int, 2) := by decide +kernel
theorem dX3_init_17 : decode cX3_init 17 = .ok (.putfield 15, 3) := by decide +kernel
theorem dX3_init_20 : decode cX3_init 20 = .ok (.aload_n 0, 1) := by decide +kernel
theorem dX3_init_21 : decode cX3_init 21 = .ok (.bipush 8, 2) := by decide +kernel
theorem dX3_init_23 : decode cX3_init 23 = .ok (.newarray .long, 2) := by decide +kernel
theorem dX3_init_25 : decode cX3_init 25 = .ok (.putfield 18, 3) := by decide +kernel
theorem dX3_init_28 : decode cX3_init 28 = .ok (.aload_n 0, 1) := by decide +kernel
theorem dX3_init_29 : decode cX3_init 29 = .ok (.bipush 6, 2) := by decide +kernel
theorem dX3_init_31 : decode cX3_init 31 = .ok (.newarray .long, 2) := by decide +kernel
theorem dX3_init_33 : decode cX3_init 33 = .ok (.putfield 22, 3) := by decide +kernel
theorem dX3_init_36 : decode cX3_init 36 = .ok (.aload_n 0, 1) := by decide +kernel
theorem dX3_init_37 : decode cX3_init 37 = .ok (.iconst 4, 1) := by decide +kernel
theorem dX3_init_38 : decode cX3_init 38 = .ok (.newarray .int, 2) := by decide +kernel
theorem dX3_init_40 : decode cX3_init 40 = .ok (.putfield 25, 3) := by decide +kernel
theorem dX3_init_43 : decode cX3_init 43 = .ok (.return_, 1) := by decide +kernel
theorem dX3_clear_0 : decode cX3_clear 0 = .ok (.aload_n 0, 1) := by decide +kernel
theorem dX3_clear_1 : decode cX3_clear 1 = .ok (.iconst 0, 1) := by decide +kernel
theorem dX3_clear_2 : decode cX3_clear 2 = .ok (.putfield 28, 3) := by decide +kernel
theorem dX3_clear_5 : decode cX3_clear 5 = .ok (.aload_n 0, 1) := by decide +kernel
theorem dX3_clear_6 : decode cX3_clear 6 = .ok (.iconst 0, 1) := by decide +kernel
theorem dX3_clear_7 : decode cX3_clear 7 = .ok (.putfield 32, 3) := by decide +kernel
theorem dX3_clear_10 : decode cX3_clear 10 = .ok (.aload_n 0, 1) := by decide +kernel
theorem dX3_clear_11 : decode cX3_clear 11 = .ok (.iconst 0, 1) := by decide +kernel
theorem dX3_clear_12 : decode cX3_clear 12 = .ok (.putfield 35, 3) := by decide +kernel
theorem dX3_clear_15 : decode cX3_clear 15 = .ok (.aload_n 0, 1) := by decide +kernel
theorem dX3_clear_16 : decode cX3_clear 16 = .ok (.iconst 0, 1) := by decide +kernel
theorem dX3_clear_17 : decode cX3_clear 17 = .ok (.putfield 38, 3) := by decide +kernel
theorem dX3_clear_20 : decode cX3_clear 20 = .ok (.aload_n 0, 1) := by decide +kernel
theorem dX3_clear_21 : decode cX3_clear 21 = .ok (.iconst 0, 1) := by decide +kernel
theorem dX3_clear_22 : decode cX3_clear 22 = .ok (.putfield 41, 3) := by decide +kernel
theorem dX3_clear_25 : decode cX3_clear 25 = .ok (.aload_n 0, 1) := by decide +kernel
theorem dX3_clear_26 : decode cX3_clear 26 = .ok (.iconst 0, 1) := by decide +kernel
theorem dX3_clear_27 : decode cX3_clear 27 = .ok (.putfield 44, 3) := by decide +kernel
theorem dX3_clear_30 : decode cX3_clear 30 = .ok (.aload_n 0, 1) := by decide +kernel
theorem dX3_clear_31 : decode cX3_clear 31 = .ok (.lconst 0, 1) := by decide +kernel
theorem dX3_clear_32 : decode cX3_clear 32 = .ok (.putfield 47, 3) := by decide +kernel
theorem dX3_clear_35 : decode cX3_clear 35 = .ok (.aload_n 0, 1) := by decide +kernel
theorem dX3_clear_36 : decode cX3_clear 36 = .ok (.lconst 0, 1) := by decide +kernel
theorem dX3_clear_37 : decode cX3_clear 37 = .ok (.putfield 51, 3) := by decide +kernel
theorem dX3_clear_40 : decode cX3_clear 40 = .ok (.return_, 1) := by decide +kernel
theorem dX3_copy_0 : decode cX3_copy 0 = .ok (.aload_n 0, 1) := by decide +kernel
theorem dX3_copy_1 : decode cX3_copy 1 = .ok (.aload_n 1, 1) := by decide +kernel
theorem dX3_copy_2 : decode cX3_copy 2 = .ok (.getfield 28, 3) := by decide +kernel
theorem dX3_copy_5 : decode cX3_copy 5 = .ok (.putfield 28, 3) := by decide +kernel
theorem dX3_copy_8 : decode cX3_copy 8 = .ok (.aload_n 0, 1) := by decide +kernel
theorem dX3_copy_9 : decode cX3_copy 9 = .ok (.aload_n 1, 1) := by decide +kernel
theorem dX3_copy_10 : decode cX3_copy 10 = .ok (.getfield 32, 3) := by decide +kernel
theorem dX3_copy_13 : decode cX3_copy 13 = .ok (.putfield 32, 3) := by decide +kernel
theorem dX3_copy_16 : decode cX3_copy 16 = .ok (.aload_n 0, 1) := by decide +kernel
theorem dX3_copy_17 : decode cX3_copy 17 = .ok (.aload_n 1, 1) := by decide +kernel
theorem dX3_copy_18 : decode cX3_copy 18 = .ok (.getfield 35, 3) := by decide +kernel
theorem dX3_copy_21 : decode cX3_copy 21 = .ok (.putfield 35, 3) := by decide +kernel
theorem dX3_copy_24 : decode cX3_copy 24 = .ok (.aload_n 0, 1) := by decide +kernel
theorem dX3_copy_25 : decode cX3_copy 25 = .ok (.aload_n 1, 1) := by decide +kernel
theorem dX3_copy_26 : decode cX3_copy 26 = .ok (.getfield 38, 3) := by decide +kernel
theorem dX3_copy_29 : decode cX3_copy 29 = .ok (.putfield 38, 3) := by decide +kernel
theorem dX3_copy_32 : decode cX3_copy 32 = .ok (.aload_n 0, 1) := by decide +kernel
theorem dX3_copy_33 : decode cX3_copy 33 = .ok (.aload_n 1, 1) := by decide +kernel
theorem dX3_copy_34 : decode cX3_copy 34 = .ok (.getfield 41, 3) := by decide +kernel
theorem dX3_copy_37 : decode cX3_copy 37 = .ok (.putfield 41, 3) := by decide +kernel
theorem dX3_copy_40 : decode cX3_copy 40 = .ok (.aload_n 0, 1) := by decide +kernel
theorem dX3_copy_41 : decode cX3_copy 41 = .ok (.aload_n 1, 1) := by decide +kernel
theorem dX3_copy_42 : decode cX3_copy 42 = .ok (.getfield 44, 3) := by decide +kernel
theorem dX3_copy_45 : decode cX3_copy 45 = .ok (.putfield 44, 3) := by decide +kernel
theorem dX3_copy_48 : decode cX3_copy 48 = .ok (.aload_n 0, 1) := by decide +kernel
theorem dX3_copy_49 : decode cX3_copy 49 = .ok (.aload_n 1, 1) := by decide +kernel
theorem dX3_copy_50 : decode cX3_copy 50 = .ok (.getfield 47, 3) := by decide +kernel
theorem dX3_copy_53 : decode cX3_copy 53 = .ok (.putfield 47, 3) := by decide +kernel
theorem dX3_copy_56 : decode cX3_copy 56 = .ok (.aload_n 0, 1) := by decide +kernel
theorem dX3_copy_57 : decode cX3_copy 57 = .ok (.aload_n 1, 1) := by decide +kernel
theorem dX3_copy_58 : decode cX3_copy 58 = .ok (.getfield 51, 3) := by decide +kernel
theorem dX3_copy_61 : decode cX3_copy 61 = .ok (.putfield 51, 3) := by decide +kernel
theorem dX3_copy_64 : decode cX3_copy 64 = .ok (.aload_n 1, 1) := by decide +kernel
theorem dX3_copy_65 : decode cX3_copy 65 = .ok (.getfield 9, 3) := by decide +kernel
theorem dX3_copy_68 : decode cX3_copy 68 = .ok (.iconst 0, 1) := by decide +kernel
theorem dX3_copy_69 : decode cX3_copy 69 = .ok (.aload_n 0, 1) := by decide +kernel
theorem dX3_copy_70 : decode cX3_copy 70 = .ok (.getfield 9, 3) := by decide +kernel
theorem dX3_copy_73 : decode cX3_copy 73 = .ok (.iconst 0, 1) := by decide +kernel
theorem dX3_copy_74 : decode cX3_copy 74 = .ok (.bipush 8, 2) := by decide +kernel
theorem dX3_copy_76 : decode cX3_copy 76 = .ok (.invokestatic 54, 3) := by decide +kernel
theorem dX3_copy_79 : decode cX3_copy 79 = .ok (.aload_n 1, 1) := by decide +kernel
theorem dX3_copy_80 : decode cX3_copy 80 = .ok (.getfield 15, 3) := by decide +kernel
theorem dX3_copy_83 : decode cX3_copy 83 = .ok (.iconst 0, 1) := by decide +kernel
theorem dX3_copy_84 : decode cX3_copy 84 = .ok (.aload_n 0, 1) := by decide +kernel
theorem dX3_copy_85 : decode cX3_copy 85 = .ok (.getfield 15, 3) := by decide +kernel
theorem dX3_copy_88 : decode cX3_copy 88 = .ok (.iconst 0, 1) := by decide +kernel
theorem dX3_copy_89 : decode cX3_copy 89 = .ok (.bipush 8, 2) := by decide +kernel
theorem dX3_copy_91 : decode cX3_copy 91 = .ok (.invokestatic 54, 3) := by decide +kernel
theorem dX3_copy_94 : decode cX3_copy 94 = .ok (.aload_n 1, 1) := by decide +kernel
theorem dX3_copy_95 : decode cX3_copy 95 = .ok (.getfield 18, 3) := by decide +kernel
theorem dX3_copy_98 : decode cX3_copy 98 = .ok (.iconst 0, 1) := by decide +kernel
theorem dX3_copy_99 : decode cX3_copy 99 = .ok (.aload_n 0, 1) := by decide +kernel
theorem dX3_copy_100 : decode cX3_copy 100 = .ok (.getfield 18, 3) := by decide +kernel
theorem dX3_copy_103 : decode cX3_copy 103 = .ok (.iconst 0, 1) := by decide +kernel
theorem dX3_copy_104 : decode cX3_copy 104 = .ok (.bipush 8, 2) := by decide +kernel
theorem dX3_copy_106 : decode cX3_copy 106 = .ok (.invokestatic 54, 3) := by decide +kernel
theorem dX3_copy_109 : decode cX3_copy 109 = .ok (.aload_n 1, 1) := by decide +kernel
theorem dX3_copy_110 : decode cX3_copy 110 = .ok (.getfield 22, 3) := by decide +kernel
theorem dX3_copy_113 : decode cX3_copy 113 = .ok (.iconst 0, 1) := by decide +kernel
theorem dX3_copy_114 : decode cX3_copy 114 = .ok (.aload_n 0, 1) := by decide +kernel
theorem dX3_copy_115 : decode cX3_copy 115 = .ok (.getfield 22, 3) := by decide +kernel
theorem dX3_copy_118 : decode cX3_copy 118 = .ok (.iconst 0, 1) := by decide +kernel
theorem dX3_copy_119 : decode cX3_copy 119 = .ok (.bipush 6, 2) := by decide +kernel
theorem dX3_copy_121 : decode cX3_copy 121 = .ok (.invokestatic 54, 3) := by decide +kernel
theorem dX3_copy_124 : decode cX3_copy 124 = .ok (.aload_n 1, 1) := by decide +kernel
theorem dX3_copy_125 : decode cX3_copy 125 = .ok (.getfield 25, 3) := by decide +kernel
theorem dX3_copy_128 : decode cX3_copy 128 = .ok (.iconst 0, 1) := by decide +kernel
theorem dX3_copy_129 : decode cX3_copy 129 = .ok (.aload_n 0, 1) := by decide +kernel
theorem dX3_copy_130 : decode cX3_copy 130 = .ok (.getfield 25, 3) := by decide +kernel
theorem dX3_copy_133 : decode cX3_copy 133 = .ok (.iconst 0, 1) := by decide +kernel
theorem dX3_copy_134 : decode cX3_copy 134 = .ok (.iconst 4, 1) := by decide +kernel
theorem dX3_copy_135 : decode cX3_copy 135 = .ok (.invokestatic 54, 3) := by decide +kernel
theorem dX3_copy_138 : decode cX3_copy 138 = .ok (.return_, 1) := by decide +kernel
theorem dX3_told_0 : decode cX3_told 0 = .ok (.aload_n 0, 1) := by decide +kernel
theorem dX3_told_1 : decode cX3_told 1 = .ok (.getfield 28, 3) := by decide +kernel
theorem dX3_told_4 : decode cX3_told 4 = .ok (.ifCond .le 7, 3) := by decide +kernel
theorem dX3_told_7 : decode cX3_told 7 = .ok (.iconst 1, 1) := by decide +kernel
theorem dX3_told_8 : decode cX3_told 8 = .ok (.goto 4, 3) := by decide +kernel
theorem dX3_told_11 : decode cX3_told 11 = .ok (.iconst 0, 1) := by decide +kernel
theorem dX3_told_12 : decode cX3_told 12 = .ok (.ireturn, 1) := by decide +kernel
theorem dX3_holds_0 : decode cX3_holds 0 = .ok (.iload_n 1, 1) := by decide +kernel
theorem dX3_holds_1 : decode cX3_holds 1 = .ok (.aload_n 0, 1) := by decide +kernel
theorem dX3_holds_2 : decode cX3_holds 2 = .ok (.getfield 28, 3) := by decide +kernel
theorem dX3_holds_5 : decode cX3_holds 5 = .ok (.invokestatic 60, 3) := by decide +kernel
theorem dX3_holds_8 : decode cX3_holds 8 = .ok (.ifCond .eq 18, 3) := by decide +kernel
theorem dX3_holds_11 : decode cX3_holds 11 = .ok (.iload_n 2, 1) := by decide +kernel
theorem dX3_holds_12 : decode cX3_holds 12 = .ok (.aload_n 0, 1) := by decide +kernel
theorem dX3_holds_13 : decode cX3_holds 13 = .ok (.getfield 32, 3) := by decide +kernel
theorem dX3_holds_16 : decode cX3_holds 16 = .ok (.invokestatic 60, 3) := by decide +kernel
theorem dX3_holds_19 : decode cX3_holds 19 = .ok (.ifCond .eq 7, 3) := by decide +kernel
theorem dX3_holds_22 : decode cX3_holds 22 = .ok (.iconst 1, 1) := by decide +kernel
theorem dX3_holds_23 : decode cX3_holds 23 = .ok (.goto 4, 3) := by decide +kernel
theorem dX3_holds_26 : decode cX3_holds 26 = .ok (.iconst 0, 1) := by decide +kernel
theorem dX3_holds_27 : decode cX3_holds 27 = .ok (.ireturn, 1) := by decide +kernel
theorem dX3_open_0 : decode cX3_open 0 = .ok (.aload_n 0, 1) := by decide +kernel
theorem dX3_open_1 : decode cX3_open 1 = .ok (.getfield 47, 3) := by decide +kernel
theorem dX3_open_4 : decode cX3_open 4 = .ok (.aload_n 0, 1) := by decide +kernel
theorem dX3_open_5 : decode cX3_open 5 = .ok (.getfield 51, 3) := by decide +kernel
theorem dX3_open_8 : decode cX3_open 8 = .ok (.ldc2_w 64, 3) := by decide +kernel
theorem dX3_open_11 : decode cX3_open 11 = .ok (.lxor, 1) := by decide +kernel
theorem dX3_open_12 : decode cX3_open 12 = .ok (.land, 1) := by decide +kernel
theorem dX3_open_13 : decode cX3_open 13 = .ok (.lreturn, 1) := by decide +kernel
theorem dX3_settle_0 : decode cX3_settle 0 = .ok (.aload_n 0, 1) := by decide +kernel
theorem dX3_settle_1 : decode cX3_settle 1 = .ok (.iconst 0, 1) := by decide +kernel
theorem dX3_settle_2 : decode cX3_settle 2 = .ok (.iconst 0, 1) := by decide +kernel
theorem dX3_settle_3 : decode cX3_settle 3 = .ok (.aload_n 0, 1) := by decide +kernel
theorem dX3_settle_4 : decode cX3_settle 4 = .ok (.getfield 28, 3) := by decide +kernel
theorem dX3_settle_7 : decode cX3_settle 7 = .ok (.iconst 1, 1) := by decide +kernel
theorem dX3_settle_8 : decode cX3_settle 8 = .ok (.isub, 1) := by decide +kernel
theorem dX3_settle_9 : decode cX3_settle 9 = .ok (.aload_n 0, 1) := by decide +kernel
theorem dX3_settle_10 : decode cX3_settle 10 = .ok (.getfield 32, 3) := by decide +kernel
theorem dX3_settle_13 : decode cX3_settle 13 = .ok (.iconst 1, 1) := by decide +kernel
theorem dX3_settle_14 : decode cX3_settle 14 = .ok (.isub, 1) := by decide +kernel
theorem dX3_settle_15 : decode cX3_settle 15 = .ok (.invokestatic 66, 3) := by decide +kernel
theorem dX3_settle_18 : decode cX3_settle 18 = .ok (.putfield 47, 3) := by decide +kernel
theorem dX3_settle_21 : decode cX3_settle 21 = .ok (.iconst 0, 1) := by decide +kernel
theorem dX3_settle_22 : decode cX3_settle 22 = .ok (.istore_n 1, 1) := by decide +kernel
theorem dX3_settle_23 : decode cX3_settle 23 = .ok (.iload_n 1, 1) := by decide +kernel
theorem dX3_settle_24 : decode cX3_settle 24 = .ok (.aload_n 0, 1) := by decide +kernel
theorem dX3_settle_25 : decode cX3_settle 25 = .ok (.getfield 35, 3) := by decide +kernel
theorem dX3_settle_28 : decode cX3_settle 28 = .ok (.if_icmp .ge 30, 3) := by decide +kernel
theorem dX3_settle_31 : decode cX3_settle 31 = .ok (.aload_n 0, 1) := by decide +kernel
theorem dX3_settle_32 : decode cX3_settle 32 = .ok (.dup, 1) := by decide +kernel
theorem dX3_settle_33 : decode cX3_settle 33 = .ok (.getfield 51, 3) := by decide +kernel
theorem dX3_settle_36 : decode cX3_settle 36 = .ok (.lconst 1, 1) := by decide +kernel
theorem dX3_settle_37 : decode cX3_settle 37 = .ok (.aload_n 0, 1) := by decide +kernel
theorem dX3_settle_38 : decode cX3_settle 38 = .ok (.getfield 9, 3) := by decide +kernel
theorem dX3_settle_41 : decode cX3_settle 41 = .ok (.iload_n 1, 1) := by decide +kernel
theorem dX3_settle_42 : decode cX3_settle 42 = .ok (.iaload, 1) := by decide +kernel
theorem dX3_settle_43 : decode cX3_settle 43 = .ok (.lshl, 1) := by decide +kernel
theorem dX3_settle_44 : decode cX3_settle 44 = .ok (.ldc2_w 64, 3) := by decide +kernel
theorem dX3_settle_47 : decode cX3_settle 47 = .ok (.lxor, 1) := by decide +kernel
theorem dX3_settle_48 : decode cX3_settle 48 = .ok (.land, 1) := by decide +kernel
theorem dX3_settle_49 : decode cX3_settle 49 = .ok (.putfield 51, 3) := by decide +kernel
theorem dX3_settle_52 : decode cX3_settle 52 = .ok (.iinc 1 1, 3) := by decide +kernel
theorem dX3_settle_55 : decode cX3_settle 55 = .ok (.goto (-32), 3) := by decide +kernel
theorem dX3_settle_58 : decode cX3_settle 58 = .ok (.iconst 0, 1) := by decide +kernel
theorem dX3_settle_59 : decode cX3_settle 59 = .ok (.istore_n 1, 1) := by decide +kernel
theorem dX3_settle_60 : decode cX3_settle 60 = .ok (.iload_n 1, 1) := by decide +kernel
theorem dX3_settle_61 : decode cX3_settle 61 = .ok (.aload_n 0, 1) := by decide +kernel
theorem dX3_settle_62 : decode cX3_settle 62 = .ok (.getfield 35, 3) := by decide +kernel
theorem dX3_settle_65 : decode cX3_settle 65 = .ok (.if_icmp .ge 31, 3) := by decide +kernel
theorem dX3_settle_68 : decode cX3_settle 68 = .ok (.aload_n 0, 1) := by decide +kernel
theorem dX3_settle_69 : decode cX3_settle 69 = .ok (.getfield 18, 3) := by decide +kernel
theorem dX3_settle_72 : decode cX3_settle 72 = .ok (.iload_n 1, 1) := by decide +kernel
theorem dX3_settle_73 : decode cX3_settle 73 = .ok (.aload_n 0, 1) := by decide +kernel
theorem dX3_settle_74 : decode cX3_settle 74 = .ok (.aload_n 0, 1) := by decide +kernel
theorem dX3_settle_75 : decode cX3_settle 75 = .ok (.getfield 9, 3) := by decide +kernel
theorem dX3_settle_78 : decode cX3_settle 78 = .ok (.iload_n 1, 1) := by decide +kernel
theorem dX3_settle_79 : decode cX3_settle 79 = .ok (.iaload, 1) := by decide +kernel
theorem dX3_settle_80 : decode cX3_settle 80 = .ok (.aload_n 0, 1) := by decide +kernel
theorem dX3_settle_81 : decode cX3_settle 81 = .ok (.getfield 15, 3) := by decide +kernel
theorem dX3_settle_84 : decode cX3_settle 84 = .ok (.iload_n 1, 1) := by decide +kernel
theorem dX3_settle_85 : decode cX3_settle 85 = .ok (.iaload, 1) := by decide +kernel
theorem dX3_settle_86 : decode cX3_settle 86 = .ok (.invokevirtual 72, 3) := by decide +kernel
theorem dX3_settle_89 : decode cX3_settle 89 = .ok (.lastore, 1) := by decide +kernel
theorem dX3_settle_90 : decode cX3_settle 90 = .ok (.iinc 1 1, 3) := by decide +kernel
theorem dX3_settle_93 : decode cX3_settle 93 = .ok (.goto (-33), 3) := by decide +kernel
theorem dX3_settle_96 : decode cX3_settle 96 = .ok (.return_, 1) := by decide +kernel
theorem dX3_view_0 : decode cX3_view 0 = .ok (.lconst 0, 1) := by decide +kernel
theorem dX3_view_1 : decode cX3_view 1 = .ok (.lstore_n 3, 1) := by decide +kernel
theorem dX3_view_2 : decode cX3_view 2 = .ok (.iconst 0, 1) := by decide +kernel
theorem dX3_view_3 : decode cX3_view 3 = .ok (.istore 5, 2) := by decide +kernel
theorem dX3_view_5 : decode cX3_view 5 = .ok (.iload 5, 2) := by decide +kernel
theorem dX3_view_7 : decode cX3_view 7 = .ok (.bipush 36, 2) := by decide +kernel
theorem dX3_view_9 : decode cX3_view 9 = .ok (.if_icmp .ge 41, 3) := by decide +kernel
theorem dX3_view_12 : decode cX3_view 12 = .ok (.aload_n 0, 1) := by decide +kernel
theorem dX3_view_13 : decode cX3_view 13 = .ok (.getfield 47, 3) := by decide +kernel
theorem dX3_view_16 : decode cX3_view 16 = .ok (.iload 5, 2) := by decide +kernel
theorem dX3_view_18 : decode cX3_view 18 = .ok (.lushr, 1) := by decide +kernel
theorem dX3_view_19 : decode cX3_view 19 = .ok (.lconst 1, 1) := by decide +kernel
theorem dX3_view_20 : decode cX3_view 20 = .ok (.land, 1) := by decide +kernel
theorem dX3_view_21 : decode cX3_view 21 = .ok (.lconst 0, 1) := by decide +kernel
theorem dX3_view_22 : decode cX3_view 22 = .ok (.lcmp, 1) := by decide +kernel
theorem dX3_view_23 : decode cX3_view 23 = .ok (.ifCond .eq 21, 3) := by decide +kernel
theorem dX3_view_26 : decode cX3_view 26 = .ok (.aload_n 0, 1) := by decide +kernel
theorem dX3_view_27 : decode cX3_view 27 = .ok (.iload_n 1, 1) := by decide +kernel
theorem dX3_view_28 : decode cX3_view 28 = .ok (.iload 5, 2) := by decide +kernel
theorem dX3_view_30 : decode cX3_view 30 = .ok (.iload_n 2, 1) := by decide +kernel
theorem dX3_view_31 : decode cX3_view 31 = .ok (.invokevirtual 76, 3) := by decide +kernel
theorem dX3_view_34 : decode cX3_view 34 = .ok (.ifCond .eq 10, 3) := by decide +kernel
theorem dX3_view_37 : decode cX3_view 37 = .ok (.lload_n 3, 1) := by decide +kernel
theorem dX3_view_38 : decode cX3_view 38 = .ok (.lconst 1, 1) := by decide +kernel
theorem dX3_view_39 : decode cX3_view 39 = .ok (.iload 5, 2) := by decide +kernel
theorem dX3_view_41 : decode cX3_view 41 = .ok (.lshl, 1) := by decide +kernel
theorem dX3_view_42 : decode cX3_view 42 = .ok (.lor, 1) := by decide +kernel
theorem dX3_view_43 : decode cX3_view 43 = .ok (.lstore_n 3, 1) := by decide +kernel
theorem dX3_view_44 : decode cX3_view 44 = .ok (.iinc 5 1, 3) := by decide +kernel
theorem dX3_view_47 : decode cX3_view 47 = .ok (.goto (-42), 3) := by decide +kernel
theorem dX3_view_50 : decode cX3_view 50 = .ok (.lload_n 3, 1) := by decide +kernel
theorem dX3_view_51 : decode cX3_view 51 = .ok (.lreturn, 1) := by decide +kernel
theorem dX3_isClear_0 : decode cX3_isClear 0 = .ok (.iload_n 2, 1) := by decide +kernel
theorem dX3_isClear_1 : decode cX3_isClear 1 = .ok (.bipush 6, 2) := by decide +kernel
theorem dX3_isClear_3 : decode cX3_isClear 3 = .ok (.irem, 1) := by decide +kernel
theorem dX3_isClear_4 : decode cX3_isClear 4 = .ok (.iload_n 1, 1) := by decide +kernel
theorem dX3_isClear_5 : decode cX3_isClear 5 = .ok (.bipush 6, 2) := by decide +kernel
theorem dX3_isClear_7 : decode cX3_isClear 7 = .ok (.irem, 1) := by decide +kernel
theorem dX3_isClear_8 : decode cX3_isClear 8 = .ok (.isub, 1) := by decide +kernel
theorem dX3_isClear_9 : decode cX3_isClear 9 = .ok (.istore 4, 2) := by decide +kernel
theorem dX3_isClear_11 : decode cX3_isClear 11 = .ok (.iload_n 2, 1) := by decide +kernel
theorem dX3_isClear_12 : decode cX3_isClear 12 = .ok (.bipush 6, 2) := by decide +kernel
theorem dX3_isClear_14 : decode cX3_isClear 14 = .ok (.idiv, 1) := by decide +kernel
theorem dX3_isClear_15 : decode cX3_isClear 15 = .ok (.iload_n 1, 1) := by decide +kernel
theorem dX3_isClear_16 : decode cX3_isClear 16 = .ok (.bipush 6, 2) := by decide +kernel
theorem dX3_isClear_18 : decode cX3_isClear 18 = .ok (.idiv, 1) := by decide +kernel
theorem dX3_isClear_19 : decode cX3_isClear 19 = .ok (.isub, 1) := by decide +kernel
theorem dX3_isClear_20 : decode cX3_isClear 20 = .ok (.istore 5, 2) := by decide +kernel
theorem dX3_isClear_22 : decode cX3_isClear 22 = .ok (.iload 4, 2) := by decide +kernel
theorem dX3_isClear_24 : decode cX3_isClear 24 = .ok (.invokestatic 80, 3) := by decide +kernel
theorem dX3_isClear_27 : decode cX3_isClear 27 = .ok (.iload 5, 2) := by decide +kernel
theorem dX3_isClear_29 : decode cX3_isClear 29 = .ok (.invokestatic 80, 3) := by decide +kernel
theorem dX3_isClear_32 : decode cX3_isClear 32 = .ok (.invokestatic 86, 3) := by decide +kernel
theorem dX3_isClear_35 : decode cX3_isClear 35 = .ok (.istore 6, 2) := by decide +kernel
theorem dX3_isClear_37 : decode cX3_isClear 37 = .ok (.iload 6, 2) := by decide +kernel
theorem dX3_isClear_39 : decode cX3_isClear 39 = .ok (.iload_n 3, 1) := by decide +kernel
theorem dX3_isClear_40 : decode cX3_isClear 40 = .ok (.if_icmp .le 5, 3) := by decide +kernel
theorem dX3_isClear_43 : decode cX3_isClear 43 = .ok (.iconst 0, 1) := by decide +kernel
theorem dX3_isClear_44 : decode cX3_isClear 44 = .ok (.ireturn, 1) := by decide +kernel
theorem dX3_isClear_45 : decode cX3_isClear 45 = .ok (.iconst 1, 1) := by decide +kernel
theorem dX3_isClear_46 : decode cX3_isClear 46 = .ok (.istore 7, 2) := by decide +kernel
theorem dX3_isClear_48 : decode cX3_isClear 48 = .ok (.iload 7, 2) := by decide +kernel
theorem dX3_isClear_50 : decode cX3_isClear 50 = .ok (.iload 6, 2) := by decide +kernel
theorem dX3_isClear_52 : decode cX3_isClear 52 = .ok (.if_icmp .ge 76, 3) := by decide +kernel
theorem dX3_isClear_55 : decode cX3_isClear 55 = .ok (.iload_n 1, 1) := by decide +kernel
theorem dX3_isClear_56 : decode cX3_isClear 56 = .ok (.bipush 6, 2) := by decide +kernel
theorem dX3_isClear_58 : decode cX3_isClear 58 = .ok (.irem, 1) := by decide +kernel
theorem dX3_isClear_59 : decode cX3_isClear 59 = .ok (.iconst 2, 1) := by decide +kernel
theorem dX3_isClear_60 : decode cX3_isClear 60 = .ok (.iload 7, 2) := by decide +kernel
theorem dX3_isClear_62 : decode cX3_isClear 62 = .ok (.imul, 1) := by decide +kernel
theorem dX3_isClear_63 : decode cX3_isClear 63 = .ok (.iload 4, 2) := by decide +kernel
theorem dX3_isClear_65 : decode cX3_isClear 65 = .ok (.imul, 1) := by decide +kernel
theorem dX3_isClear_66 : decode cX3_isClear 66 = .ok (.iload 6, 2) := by decide +kernel
theorem dX3_isClear_68 : decode cX3_isClear 68 = .ok (.iadd, 1) := by decide +kernel
theorem dX3_isClear_69 : decode cX3_isClear 69 = .ok (.iconst 2, 1) := by decide +kernel
theorem dX3_isClear_70 : decode cX3_isClear 70 = .ok (.iload 6, 2) := by decide +kernel
theorem dX3_isClear_72 : decode cX3_isClear 72 = .ok (.imul, 1) := by decide +kernel
theorem dX3_isClear_73 : decode cX3_isClear 73 = .ok (.invokestatic 90, 3) := by decide +kernel
theorem dX3_isClear_76 : decode cX3_isClear 76 = .ok (.iadd, 1) := by decide +kernel
theorem dX3_isClear_77 : decode cX3_isClear 77 = .ok (.istore 8, 2) := by decide +kernel
theorem dX3_isClear_79 : decode cX3_isClear 79 = .ok (.iload_n 1, 1) := by decide +kernel
theorem dX3_isClear_80 : decode cX3_isClear 80 = .ok (.bipush 6, 2) := by decide +kernel
theorem dX3_isClear_82 : decode cX3_isClear 82 = .ok (.idiv, 1) := by decide +kernel
theorem dX3_isClear_83 : decode cX3_isClear 83 = .ok (.iconst 2, 1) := by decide +kernel
theorem dX3_isClear_84 : decode cX3_isClear 84 = .ok (.iload 7, 2) := by decide +kernel
theorem dX3_isClear_86 : decode cX3_isClear 86 = .ok (.imul, 1) := by decide +kernel
theorem dX3_isClear_87 : decode cX3_isClear 87 = .ok (.iload 5, 2) := by decide +kernel
theorem dX3_isClear_89 : decode cX3_isClear 89 = .ok (.imul, 1) := by decide +kernel
theorem dX3_isClear_90 : decode cX3_isClear 90 = .ok (.iload 6, 2) := by decide +kernel
theorem dX3_isClear_92 : decode cX3_isClear 92 = .ok (.iadd, 1) := by decide +kernel
theorem dX3_isClear_93 : decode cX3_isClear 93 = .ok (.iconst 2, 1) := by decide +kernel
theorem dX3_isClear_94 : decode cX3_isClear 94 = .ok (.iload 6, 2) := by decide +kernel
theorem dX3_isClear_96 : decode cX3_isClear 96 = .ok (.imul, 1) := by decide +kernel
theorem dX3_isClear_97 : decode cX3_isClear 97 = .ok (.invokestatic 90, 3) := by decide +kernel
theorem dX3_isClear_100 : decode cX3_isClear 100 = .ok (.iadd, 1) := by decide +kernel
theorem dX3_isClear_101 : decode cX3_isClear 101 = .ok (.istore 9, 2) := by decide +kernel
theorem dX3_isClear_103 : decode cX3_isClear 103 = .ok (.aload_n 0, 1) := by decide +kernel
theorem dX3_isClear_104 : decode cX3_isClear 104 = .ok (.getfield 51, 3) := by decide +kernel
theorem dX3_isClear_107 : decode cX3_isClear 107 = .ok (.iload 8, 2) := by decide +kernel
theorem dX3_isClear_109 : decode cX3_isClear 109 = .ok (.iload 9, 2) := by decide +kernel
theorem dX3_isClear_111 : decode cX3_isClear 111 = .ok (.invokestatic 93, 3) := by decide +kernel
theorem dX3_isClear_114 : decode cX3_isClear 114 = .ok (.land, 1) := by decide +kernel
theorem dX3_isClear_115 : decode cX3_isClear 115 = .ok (.lconst 0, 1) := by decide +kernel
theorem dX3_isClear_116 : decode cX3_isClear 116 = .ok (.lcmp, 1) := by decide +kernel
theorem dX3_isClear_117 : decode cX3_isClear 117 = .ok (.ifCond .eq 5, 3) := by decide +kernel
theorem dX3_isClear_120 : decode cX3_isClear 120 = .ok (.iconst 0, 1) := by decide +kernel
theorem dX3_isClear_121 : decode cX3_isClear 121 = .ok (.ireturn, 1) := by decide +kernel
theorem dX3_isClear_122 : decode cX3_isClear 122 = .ok (.iinc 7 1, 3) := by decide +kernel
theorem dX3_isClear_125 : decode cX3_isClear 125 = .ok (.goto (-77), 3) := by decide +kernel
theorem dX3_isClear_128 : decode cX3_isClear 128 = .ok (.iconst 1, 1) := by decide +kernel
theorem dX3_isClear_129 : decode cX3_isClear 129 = .ok (.ireturn, 1) := by decide +kernel
theorem dX3_hillOn_0 : decode cX3_hillOn 0 = .ok (.iconst 0, 1) := by decide +kernel
theorem dX3_hillOn_1 : decode cX3_hillOn 1 = .ok (.istore_n 2, 1) := by decide +kernel
theorem dX3_hillOn_2 : decode cX3_hillOn 2 = .ok (.iload_n 2, 1) := by decide +kernel
theorem dX3_hillOn_3 : decode cX3_hillOn 3 = .ok (.aload_n 0, 1) := by decide +kernel
theorem dX3_hillOn_4 : decode cX3_hillOn 4 = .ok (.getfield 35, 3) := by decide +kernel
theorem dX3_hillOn_7 : decode cX3_hillOn 7 = .ok (.if_icmp .ge 21, 3) := by decide +kernel
theorem dX3_hillOn_10 : decode cX3_hillOn 10 = .ok (.aload_n 0, 1) := by decide +kernel
theorem dX3_hillOn_11 : decode cX3_hillOn 11 = .ok (.getfield 9, 3) := by decide +kernel
theorem dX3_hillOn_14 : decode cX3_hillOn 14 = .ok (.iload_n 2, 1) := by decide +kernel
theorem dX3_hillOn_15 : decode cX3_hillOn 15 = .ok (.iaload, 1) := by decide +kernel
theorem dX3_hillOn_16 : decode cX3_hillOn 16 = .ok (.iload_n 1, 1) := by decide +kernel
theorem dX3_hillOn_17 : decode cX3_hillOn 17 = .ok (.if_icmp .ne 5, 3) := by decide +kernel
theorem dX3_hillOn_20 : decode cX3_hillOn 20 = .ok (.iload_n 2, 1) := by decide +kernel
theorem dX3_hillOn_21 : decode cX3_hillOn 21 = .ok (.ireturn, 1) := by decide +kernel
theorem dX3_hillOn_22 : decode cX3_hillOn 22 = .ok (.iinc 2 1, 3) := by decide +kernel
theorem dX3_hillOn_25 : decode cX3_hillOn 25 = .ok (.goto (-23), 3) := by decide +kernel
theorem dX3_hillOn_28 : decode cX3_hillOn 28 = .ok (.iconst (-1), 1) := by decide +kernel
theorem dX3_hillOn_29 : decode cX3_hillOn 29 = .ok (.ireturn, 1) := by decide +kernel
theorem dX3_hillsThatSee_0 : decode cX3_hillsThatSee 0 = .ok (.iconst 0, 1) := by decide +kernel
theorem dX3_hillsThatSee_1 : decode cX3_hillsThatSee 1 = .ok (.istore_n 2, 1) := by decide +kernel
theorem dX3_hillsThatSee_2 : decode cX3_hillsThatSee 2 = .ok (.iconst 0, 1) := by decide +kernel
theorem dX3_hillsThatSee_3 : decode cX3_hillsThatSee 3 = .ok (.istore_n 3, 1) := by decide +kernel
theorem dX3_hillsThatSee_4 : decode cX3_hillsThatSee 4 = .ok (.iload_n 3, 1) := by decide +kernel
theorem dX3_hillsThatSee_5 : decode cX3_hillsThatSee 5 = .ok (.aload_n 0, 1) := by decide +kernel
theorem dX3_hillsThatSee_6 : decode cX3_hillsThatSee 6 = .ok (.getfield 35, 3) := by decide +kernel
theorem dX3_hillsThatSee_9 : decode cX3_hillsThatSee 9 = .ok (.if_icmp .ge 23, 3) := by decide +kernel
theorem dX3_hillsThatSee_12 : decode cX3_hillsThatSee 12 = .ok (.iload_n 2, 1) := by decide +kernel
theorem dX3_hillsThatSee_13 : decode cX3_hillsThatSee 13 = .ok (.aload_n 0, 1) := by decide +kernel
theorem dX3_hillsThatSee_14 : decode cX3_hillsThatSee 14 = .ok (.getfield 18, 3) := by decide +kernel
theorem dX3_hillsThatSee_17 : decode cX3_hillsThatSee 17 = .ok (.iload_n 3, 1) := by decide +kernel
theorem dX3_hillsThatSee_18 : decode cX3_hillsThatSee 18 = .ok (.laload, 1) := by decide +kernel
theorem dX3_hillsThatSee_19 : decode cX3_hillsThatSee 19 = .ok (.iload_n 1, 1) := by decide +kernel
theorem dX3_hillsThatSee_20 : decode cX3_hillsThatSee 20 = .ok (.lushr, 1) := by decide +kernel
theorem dX3_hillsThatSee_21 : decode cX3_hillsThatSee 21 = .ok (.lconst 1, 1) := by decide +kernel
theorem dX3_hillsThatSee_22 : decode cX3_hillsThatSee 22 = .ok (.land, 1) := by decide +kernel
theorem dX3_hillsThatSee_23 : decode cX3_hillsThatSee 23 = .ok (.l2i, 1) := by decide +kernel
theorem dX3_hillsThatSee_24 : decode cX3_hillsThatSee 24 = .ok (.iadd, 1) := by decide +kernel
theorem dX3_hillsThatSee_25 : decode cX3_hillsThatSee 25 = .ok (.istore_n 2, 1) := by decide +kernel
theorem dX3_hillsThatSee_26 : decode cX3_hillsThatSee 26 = .ok (.iinc 3 1, 3) := by decide +kernel
theorem dX3_hillsThatSee_29 : decode cX3_hillsThatSee 29 = .ok (.goto (-25), 3) := by decide +kernel
theorem dX3_hillsThatSee_32 : decode cX3_hillsThatSee 32 = .ok (.iload_n 2, 1) := by decide +kernel
theorem dX3_hillsThatSee_33 : decode cX3_hillsThatSee 33 = .ok (.ireturn, 1) := by decide +kernel
theorem dX3_roadsOf_0 : decode cX3_roadsOf 0 = .ok (.iconst 0, 1) := by decide +kernel
theorem dX3_roadsOf_1 : decode cX3_roadsOf 1 = .ok (.istore_n 2, 1) := by decide +kernel
theorem dX3_roadsOf_2 : decode cX3_roadsOf 2 = .ok (.iconst 0, 1) := by decide +kernel
theorem dX3_roadsOf_3 : decode cX3_roadsOf 3 = .ok (.istore_n 3, 1) := by decide +kernel
theorem dX3_roadsOf_4 : decode cX3_roadsOf 4 = .ok (.iload_n 3, 1) := by decide +kernel
theorem dX3_roadsOf_5 : decode cX3_roadsOf 5 = .ok (.aload_n 0, 1) := by decide +kernel
theorem dX3_roadsOf_6 : decode cX3_roadsOf 6 = .ok (.getfield 38, 3) := by decide +kernel
theorem dX3_roadsOf_9 : decode cX3_roadsOf 9 = .ok (.if_icmp .ge 23, 3) := by decide +kernel
theorem dX3_roadsOf_12 : decode cX3_roadsOf 12 = .ok (.iload_n 2, 1) := by decide +kernel
theorem dX3_roadsOf_13 : decode cX3_roadsOf 13 = .ok (.aload_n 0, 1) := by decide +kernel
theorem dX3_roadsOf_14 : decode cX3_roadsOf 14 = .ok (.getfield 22, 3) := by decide +kernel
theorem dX3_roadsOf_17 : decode cX3_roadsOf 17 = .ok (.iload_n 3, 1) := by decide +kernel
theorem dX3_roadsOf_18 : decode cX3_roadsOf 18 = .ok (.laload, 1) := by decide +kernel
theorem dX3_roadsOf_19 : decode cX3_roadsOf 19 = .ok (.iload_n 1, 1) := by decide +kernel
theorem dX3_roadsOf_20 : decode cX3_roadsOf 20 = .ok (.lushr, 1) := by decide +kernel
theorem dX3_roadsOf_21 : decode cX3_roadsOf 21 = .ok (.lconst 1, 1) := by decide +kernel
theorem dX3_roadsOf_22 : decode cX3_roadsOf 22 = .ok (.land, 1) := by decide +kernel
theorem dX3_roadsOf_23 : decode cX3_roadsOf 23 = .ok (.l2i, 1) := by decide +kernel
theorem dX3_roadsOf_24 : decode cX3_roadsOf 24 = .ok (.iadd, 1) := by decide +kernel
theorem dX3_roadsOf_25 : decode cX3_roadsOf 25 = .ok (.istore_n 2, 1) := by decide +kernel
theorem dX3_roadsOf_26 : decode cX3_roadsOf 26 = .ok (.iinc 3 1, 3) := by decide +kernel
theorem dX3_roadsOf_29 : decode cX3_roadsOf 29 = .ok (.goto (-25), 3) := by decide +kernel
theorem dX3_roadsOf_32 : decode cX3_roadsOf 32 = .ok (.iload_n 2, 1) := by decide +kernel
theorem dX3_roadsOf_33 : decode cX3_roadsOf 33 = .ok (.ireturn, 1) := by decide +kernel
theorem dX3_woodsBeside_0 : decode cX3_woodsBeside 0 = .ok (.lconst 1, 1) := by decide +kernel
theorem dX3_woodsBeside_1 : decode cX3_woodsBeside 1 = .ok (.iload_n 1, 1) := by decide +kernel
theorem dX3_woodsBeside_2 : decode cX3_woodsBeside 2 = .ok (.lshl, 1) := by decide +kernel
theorem dX3_woodsBeside_3 : decode cX3_woodsBeside 3 = .ok (.lstore_n 2, 1) := by decide +kernel
theorem dX3_woodsBeside_4 : decode cX3_woodsBeside 4 = .ok (.lload_n 2, 1) := by decide +kernel
theorem dX3_woodsBeside_5 : decode cX3_woodsBeside 5 = .ok (.invokestatic 96, 3) := by decide +kernel
theorem dX3_woodsBeside_8 : decode cX3_woodsBeside 8 = .ok (.lload_n 2, 1) := by decide +kernel
theorem dX3_woodsBeside_9 : decode cX3_woodsBeside 9 = .ok (.ldc2_w 64, 3) := by decide +kernel
theorem dX3_woodsBeside_12 : decode cX3_woodsBeside 12 = .ok (.lxor, 1) := by decide +kernel
theorem dX3_woodsBeside_13 : decode cX3_woodsBeside 13 = .ok (.land, 1) := by decide +kernel
theorem dX3_woodsBeside_14 : decode cX3_woodsBeside 14 = .ok (.aload_n 0, 1) := by decide +kernel
theorem dX3_woodsBeside_15 : decode cX3_woodsBeside 15 = .ok (.getfield 51, 3) := by decide +kernel
theorem dX3_woodsBeside_18 : decode cX3_woodsBeside 18 = .ok (.land, 1) := by decide +kernel
theorem dX3_woodsBeside_19 : decode cX3_woodsBeside 19 = .ok (.invokestatic 100, 3) := by decide +kernel
theorem dX3_woodsBeside_22 : decode cX3_woodsBeside 22 = .ok (.ireturn, 1) := by decide +kernel
theorem dX3_toEdge_0 : decode cX3_toEdge 0 = .ok (.iload_n 1, 1) := by decide +kernel
theorem dX3_toEdge_1 : decode cX3_toEdge 1 = .ok (.bipush 6, 2) := by decide +kernel
theorem dX3_toEdge_3 : decode cX3_toEdge 3 = .ok (.irem, 1) := by decide +kernel
theorem dX3_toEdge_4 : decode cX3_toEdge 4 = .ok (.istore_n 2, 1) := by decide +kernel
theorem dX3_toEdge_5 : decode cX3_toEdge 5 = .ok (.iload_n 1, 1) := by decide +kernel
theorem dX3_toEdge_6 : decode cX3_toEdge 6 = .ok (.bipush 6, 2) := by decide +kernel
theorem dX3_toEdge_8 : decode cX3_toEdge 8 = .ok (.idiv, 1) := by decide +kernel
theorem dX3_toEdge_9 : decode cX3_toEdge 9 = .ok (.istore_n 3, 1) := by decide +kernel
theorem dX3_toEdge_10 : decode cX3_toEdge 10 = .ok (.iload_n 2, 1) := by decide +kernel
theorem dX3_toEdge_11 : decode cX3_toEdge 11 = .ok (.aload_n 0, 1) := by decide +kernel
theorem dX3_toEdge_12 : decode cX3_toEdge 12 = .ok (.getfield 28, 3) := by decide +kernel
theorem dX3_toEdge_15 : decode cX3_toEdge 15 = .ok (.iconst 1, 1) := by decide +kernel
theorem dX3_toEdge_16 : decode cX3_toEdge 16 = .ok (.isub, 1) := by decide +kernel
theorem dX3_toEdge_17 : decode cX3_toEdge 17 = .ok (.iload_n 2, 1) := by decide +kernel
theorem dX3_toEdge_18 : decode cX3_toEdge 18 = .ok (.isub, 1) := by decide +kernel
theorem dX3_toEdge_19 : decode cX3_toEdge 19 = .ok (.invokestatic 106, 3) := by decide +kernel
theorem dX3_toEdge_22 : decode cX3_toEdge 22 = .ok (.iload_n 3, 1) := by decide +kernel
theorem dX3_toEdge_23 : decode cX3_toEdge 23 = .ok (.aload_n 0, 1) := by decide +kernel
theorem dX3_toEdge_24 : decode cX3_toEdge 24 = .ok (.getfield 32, 3) := by decide +kernel
theorem dX3_toEdge_27 : decode cX3_toEdge 27 = .ok (.iconst 1, 1) := by decide +kernel
theorem dX3_toEdge_28 : decode cX3_toEdge 28 = .ok (.isub, 1) := by decide +kernel
theorem dX3_toEdge_29 : decode cX3_toEdge 29 = .ok (.iload_n 3, 1) := by decide +kernel
theorem dX3_toEdge_30 : decode cX3_toEdge 30 = .ok (.isub, 1) := by decide +kernel
theorem dX3_toEdge_31 : decode cX3_toEdge 31 = .ok (.invokestatic 106, 3) := by decide +kernel
theorem dX3_toEdge_34 : decode cX3_toEdge 34 = .ok (.invokestatic 106, 3) := by decide +kernel
theorem dX3_toEdge_37 : decode cX3_toEdge 37 = .ok (.ireturn, 1) := by decide +kernel
theorem dX4_init_0 : decode cX4_init 0 = .ok (.aload_n 0, 1) := by decide +kernel
theorem dX4_init_1 : decode cX4_init 1 = .ok (.invokespecial 3, 3) := by decide +kernel
theorem dX4_init_4 : decode cX4_init 4 = .ok (.aload_n 0, 1) := by decide +kernel
theorem dX4_init_5 : decode cX4_init 5 = .ok (.aload_n 1, 1) := by decide +kernel
theorem dX4_init_6 : decode cX4_init 6 = .ok (.putfield 9, 3) := by decide +kernel
theorem dX4_init_9 : decode cX4_init 9 = .ok (.aload_n 0, 1) := by decide +kernel
theorem dX4_init_10 : decode cX4_init 10 = .ok (.aload_n 2, 1) := by decide +kernel
theorem dX4_init_11 : decode cX4_init 11 = .ok (.putfield 15, 3) := by decide +kernel
theorem dX4_init_14 : decode cX4_init 14 = .ok (.return_, 1) := by decide +kernel
theorem dX4_read_0 : decode cX4_read 0 = .ok (.aload_n 0, 1) := by decide +kernel
theorem dX4_read_1 : decode cX4_read 1 = .ok (.getfield 15, 3) := by decide +kernel
theorem dX4_read_4 : decode cX4_read 4 = .ok (.invokevirtual 19, 3) := by decide +kernel
theorem dX4_read_7 : decode cX4_read 7 = .ok (.aload_n 0, 1) := by decide +kernel
theorem dX4_read_8 : decode cX4_read 8 = .ok (.getfield 9, 3) := by decide +kernel
theorem dX4_read_11 : decode cX4_read 11 = .ok (.invokevirtual 24, 3) := by decide +kernel
theorem dX4_read_14 : decode cX4_read 14 = .ok (.iconst 0, 1) := by decide +kernel
theorem dX4_read_15 : decode cX4_read 15 = .ok (.istore_n 1, 1) := by decide +kernel
theorem dX4_read_16 : decode cX4_read 16 = .ok (.iload_n 1, 1) := by decide +kernel
theorem dX4_read_17 : decode cX4_read 17 = .ok (.bipush 24, 2) := by decide +kernel
theorem dX4_read_19 : decode cX4_read 19 = .ok (.if_icmp .gt 80, 3) := by decide +kernel
theorem dX4_read_22 : decode cX4_read 22 = .ok (.aload_n 0, 1) := by decide +kernel
theorem dX4_read_23 : decode cX4_read 23 = .ok (.iload_n 1, 1) := by decide +kernel
theorem dX4_read_24 : decode cX4_read 24 = .ok (.invokevirtual 29, 3) := by decide +kernel
theorem dX4_read_27 : decode cX4_read 27 = .ok (.ifCond .ne 11, 3) := by decide +kernel
theorem dX4_read_30 : decode cX4_read 30 = .ok (.aload_n 0, 1) := by decide +kernel
theorem dX4_read_31 : decode cX4_read 31 = .ok (.getfield 9, 3) := by decide +kernel
theorem dX4_read_34 : decode cX4_read 34 = .ok (.getfield 33, 3) := by decide +kernel
theorem dX4_read_37 : decode cX4_read 37 = .ok (.ireturn, 1) := by decide +kernel
theorem dX4_read_38 : decode cX4_read 38 = .ok (.aload_n 0, 1) := by decide +kernel
theorem dX4_read_39 : decode cX4_read 39 = .ok (.getfield 9, 3) := by decide +kernel
theorem dX4_read_42 : decode cX4_read 42 = .ok (.getfield 37, 3) := by decide +kernel
theorem dX4_read_45 : decode cX4_read 45 = .ok (.ifCond .ne 12, 3) := by decide +kernel
theorem dX4_read_48 : decode cX4_read 48 = .ok (.aload_n 0, 1) := by decide +kernel
theorem dX4_read_49 : decode cX4_read 49 = .ok (.getfield 15, 3) := by decide +kernel
theorem dX4_read_52 : decode cX4_read 52 = .ok (.invokevirtual 40, 3) := by decide +kernel
theorem dX4_read_55 : decode cX4_read 55 = .ok (.iconst 0, 1) := by decide +kernel
theorem dX4_read_56 : decode cX4_read 56 = .ok (.ireturn, 1) := by decide +kernel
theorem dX4_read_57 : decode cX4_read 57 = .ok (.aload_n 0, 1) := by decide +kernel
theorem dX4_read_58 : decode cX4_read 58 = .ok (.getfield 9, 3) := by decide +kernel
theorem dX4_read_61 : decode cX4_read 61 = .ok (.bipush 59, 2) := by decide +kernel
theorem dX4_read_63 : decode cX4_read 63 = .ok (.invokevirtual 43, 3) := by decide +kernel
theorem dX4_read_66 : decode cX4_read 66 = .ok (.ifCond .ne 20, 3) := by decide +kernel
theorem dX4_read_69 : decode cX4_read 69 = .ok (.aload_n 0, 1) := by decide +kernel
theorem dX4_read_70 : decode cX4_read 70 = .ok (.getfield 9, 3) := by decide +kernel
theorem dX4_read_73 : decode cX4_read 73 = .ok (.iconst 0, 1) := by decide +kernel
theorem dX4_read_74 : decode cX4_read 74 = .ok (.invokevirtual 46, 3) := by decide +kernel
theorem dX4_read_77 : decode cX4_read 77 = .ok (.pop, 1) := by decide +kernel
theorem dX4_read_78 : decode cX4_read 78 = .ok (.aload_n 0, 1) := by decide +kernel
theorem dX4_read_79 : decode cX4_read 79 = .ok (.getfield 9, 3) := by decide +kernel
theorem dX4_read_82 : decode cX4_read 82 = .ok (.getfield 33, 3) := by decide +kernel
theorem dX4_read_85 : decode cX4_read 85 = .ok (.ireturn, 1) := by decide +kernel
theorem dX4_read_86 : decode cX4_read 86 = .ok (.aload_n 0, 1) := by decide +kernel
theorem dX4_read_87 : decode cX4_read 87 = .ok (.getfield 9, 3) := by decide +kernel
theorem dX4_read_90 : decode cX4_read 90 = .ok (.invokevirtual 49, 3) := by decide +kernel
theorem dX4_read_93 : decode cX4_read 93 = .ok (.iinc 1 1, 3) := by decide +kernel
theorem dX4_read_96 : decode cX4_read 96 = .ok (.goto (-80), 3) := by decide +kernel
theorem dX4_read_99 : decode cX4_read 99 = .ok (.aload_n 0, 1) := by decide +kernel
theorem dX4_read_100 : decode cX4_read 100 = .ok (.getfield 9, 3) := by decide +kernel
theorem dX4_read_103 : decode cX4_read 103 = .ok (.getfield 33, 3) := by decide +kernel
theorem dX4_read_106 : decode cX4_read 106 = .ok (.ireturn, 1) := by decide +kernel
theorem dX4_readClause_0 : decode cX4_readClause 0 = .ok (.aload_n 0, 1) := by decide +kernel
theorem dX4_readClause_1 : decode cX4_readClause 1 = .ok (.getfield 9, 3) := by decide +kernel
theorem dX4_readClause_4 : decode cX4_readClause 4 = .ok (.ldc 52, 2) := by decide +kernel
theorem dX4_readClause_6 : decode cX4_readClause 6 = .ok (.invokevirtual 54, 3) := by decide +kernel
theorem dX4_readClause_9 : decode cX4_readClause 9 = .ok (.istore_n 2, 1) := by decide +kernel
theorem dX4_readClause_10 : decode cX4_readClause 10 = .ok (.iload_n 2, 1) := by decide +kernel
theorem dX4_readClause_11 : decode cX4_readClause 11 = .ok (.iconst (-1), 1) := by decide +kernel
theorem dX4_readClause_12 : decode cX4_readClause 12 = .ok (.if_icmp .ne 12, 3) := by decide +kernel
theorem dX4_readClause_15 : decode cX4_readClause 15 = .ok (.aload_n 0, 1) := by decide +kernel
theorem dX4_readClause_16 : decode cX4_readClause 16 = .ok (.getfield 9, 3) := by decide +kernel
theorem dX4_readClause_19 : decode cX4_readClause 19 = .ok (.iconst 0, 1) := by decide +kernel
theorem dX4_readClause_20 : decode cX4_readClause 20 = .ok (.invokevirtual 46, 3) := by decide +kernel
theorem dX4_readClause_23 : decode cX4_readClause 23 = .ok (.ireturn, 1) := by decide +kernel
theorem dX4_readClause_24 : decode cX4_readClause 24 = .ok (.iload_n 1, 1) := by decide +kernel
theorem dX4_readClause_25 : decode cX4_readClause 25 = .ok (.ifCond .ne 15, 3) := by decide +kernel
theorem dX4_readClause_28 : decode cX4_readClause 28 = .ok (.iload_n 2, 1) := by decide +kernel
theorem dX4_readClause_29 : decode cX4_readClause 29 = .ok (.ifCond .eq 7, 3) := by decide +kernel
theorem dX4_readClause_32 : decode cX4_readClause 32 = .ok (.iconst 1, 1) := by decide +kernel
theorem dX4_readClause_33 : decode cX4_readClause 33 = .ok (.goto 16, 3) := by decide +kernel
theorem dX4_readClause_36 : decode cX4_readClause 36 = .ok (.iconst 0, 1) := by decide +kernel
theorem dX4_readClause_37 : decode cX4_readClause 37 = .ok (.goto 12, 3) := by decide +kernel
theorem dX4_readClause_40 : decode cX4_readClause 40 = .ok (.iload_n 2, 1) := by decide +kernel
theorem dX4_readClause_41 : decode cX4_readClause 41 = .ok (.ifCond .ne 7, 3) := by decide +kernel
theorem dX4_readClause_44 : decode cX4_readClause 44 = .ok (.iconst 1, 1) := by decide +kernel
theorem dX4_readClause_45 : decode cX4_readClause 45 = .ok (.goto 4, 3) := by decide +kernel
theorem dX4_readClause_48 : decode cX4_readClause 48 = .ok (.iconst 0, 1) := by decide +kernel
theorem dX4_readClause_49 : decode cX4_readClause 49 = .ok (.istore_n 3, 1) := by decide +kernel
theorem dX4_readClause_50 : decode cX4_readClause 50 = .ok (.iload_n 1, 1) := by decide +kernel
theorem dX4_readClause_51 : decode cX4_readClause 51 = .ok (.bipush 24, 2) := by decide +kernel
theorem dX4_readClause_53 : decode cX4_readClause 53 = .ok (.if_icmp .ge 15, 3) := by decide +kernel
theorem dX4_readClause_56 : decode cX4_readClause 56 = .ok (.iload_n 3, 1) := by decide +kernel
theorem dX4_readClause_57 : decode cX4_readClause 57 = .ok (.ifCond .ne 11, 3) := by decide +kernel
theorem dX4_readClause_60 : decode cX4_readClause 60 = .ok (.aload_n 0, 1) := by decide +kernel
theorem dX4_readClause_61 : decode cX4_readClause 61 = .ok (.iload_n 2, 1) := by decide +kernel
theorem dX4_readClause_62 : decode cX4_readClause 62 = .ok (.invokevirtual 58, 3) := by decide +kernel
theorem dX4_readClause_65 : decode cX4_readClause 65 = .ok (.ifCond .eq 12, 3) := by decide +kernel
theorem dX4_readClause_68 : decode cX4_readClause 68 = .ok (.aload_n 0, 1) := by decide +kernel
theorem dX4_readClause_69 : decode cX4_readClause 69 = .ok (.getfield 9, 3) := by decide +kernel
theorem dX4_readClause_72 : decode cX4_readClause 72 = .ok (.iconst 4, 1) := by decide +kernel
theorem dX4_readClause_73 : decode cX4_readClause 73 = .ok (.invokevirtual 46, 3) := by decide +kernel
theorem dX4_readClause_76 : decode cX4_readClause 76 = .ok (.ireturn, 1) := by decide +kernel
theorem dX4_readClause_77 : decode cX4_readClause 77 = .ok (.aload_n 0, 1) := by decide +kernel
theorem dX4_readClause_78 : decode cX4_readClause 78 = .ok (.getfield 9, 3) := by decide +kernel
theorem dX4_readClause_81 : decode cX4_readClause 81 = .ok (.invokevirtual 49, 3) := by decide +kernel
theorem dX4_readClause_84 : decode cX4_readClause 84 = .ok (.iload_n 2, 1) := by decide +kernel
theorem dX4_readClause_85 : decode cX4_readClause 85 = .ok (.tableswitch 51 0 3 #[31, 36, 41, 46], 31) := by decide +kernel
theorem dX4_readClause_116 : decode cX4_readClause 116 = .ok (.aload_n 0, 1) := by decide +kernel
theorem dX4_readClause_117 : decode cX4_readClause 117 = .ok (.invokevirtual 61, 3) := by decide +kernel
theorem dX4_readClause_120 : decode cX4_readClause 120 = .ok (.ireturn, 1) := by decide +kernel
theorem dX4_readClause_121 : decode cX4_readClause 121 = .ok (.aload_n 0, 1) := by decide +kernel
theorem dX4_readClause_122 : decode cX4_readClause 122 = .ok (.invokevirtual 65, 3) := by decide +kernel
theorem dX4_readClause_125 : decode cX4_readClause 125 = .ok (.ireturn, 1) := by decide +kernel
theorem dX4_readClause_126 : decode cX4_readClause 126 = .ok (.aload_n 0, 1) := by decide +kernel
theorem dX4_readClause_127 : decode cX4_readClause 127 = .ok (.invokevirtual 68, 3) := by decide +kernel
theorem dX4_readClause_130 : decode cX4_readClause 130 = .ok (.ireturn, 1) := by decide +kernel
theorem dX4_readClause_131 : decode cX4_readClause 131 = .ok (.aload_n 0, 1) := by decide +kernel
theorem dX4_readClause_132 : decode cX4_readClause 132 = .ok (.invokevirtual 71, 3) := by decide +kernel
theorem dX4_readClause_135 : decode cX4_readClause 135 = .ok (.ireturn, 1) := by decide +kernel
theorem dX4_readClause_136 : decode cX4_readClause 136 = .ok (.aload_n 0, 1) := by decide +kernel
theorem dX4_readClause_137 : decode cX4_readClause 137 = .ok (.invokevirtual 74, 3) := by decide +kernel
theorem dX4_readClause_140 : decode cX4_readClause 140 = .ok (.ireturn, 1) := by decide +kernel
theorem dX4_isFull_0 : decode cX4_isFull 0 = .ok (.iload_n 1, 1) := by decide +kernel
theorem dX4_isFull_1 : decode cX4_isFull 1 = .ok (.iconst 2, 1) := by decide +kernel
theorem dX4_isFull_2 : decode cX4_isFull 2 = .ok (.if_icmp .ne 21, 3) := by decide +kernel
theorem dX4_isFull_5 : decode cX4_isFull 5 = .ok (.aload_n 0, 1) := by decide +kernel
theorem dX4_isFull_6 : decode cX4_isFull 6 = .ok (.getfield 15, 3) := by decide +kernel
theorem dX4_isFull_9 : decode cX4_isFull 9 = .ok (.getfield 77, 3) := by decide +kernel
theorem dX4_isFull_12 : decode cX4_isFull 12 = .ok (.bipush 8, 2) := by decide +kernel
theorem dX4_isFull_14 : decode cX4_isFull 14 = .ok (.if_icmp .lt 7, 3) := by decide +kernel
theorem dX4_isFull_17 : decode cX4_isFull 17 = .ok (.iconst 1, 1) := by decide +kernel
theorem dX4_isFull_18 : decode cX4_isFull 18 = .ok (.goto 4, 3) := by decide +kernel
theorem dX4_isFull_21 : decode cX4_isFull 21 = .ok (.iconst 0, 1) := by decide +kernel
theorem dX4_isFull_22 : decode cX4_isFull 22 = .ok (.ireturn, 1) := by decide +kernel
theorem dX4_isFull_23 : decode cX4_isFull 23 = .ok (.iload_n 1, 1) := by decide +kernel
theorem dX4_isFull_24 : decode cX4_isFull 24 = .ok (.iconst 3, 1) := by decide +kernel
theorem dX4_isFull_25 : decode cX4_isFull 25 = .ok (.if_icmp .ne 21, 3) := by decide +kernel
theorem dX4_isFull_28 : decode cX4_isFull 28 = .ok (.aload_n 0, 1) := by decide +kernel
theorem dX4_isFull_29 : decode cX4_isFull 29 = .ok (.getfield 15, 3) := by decide +kernel
theorem dX4_isFull_32 : decode cX4_isFull 32 = .ok (.getfield 80, 3) := by decide +kernel
theorem dX4_isFull_35 : decode cX4_isFull 35 = .ok (.bipush 6, 2) := by decide +kernel
theorem dX4_isFull_37 : decode cX4_isFull 37 = .ok (.if_icmp .lt 7, 3) := by decide +kernel
theorem dX4_isFull_40 : decode cX4_isFull 40 = .ok (.iconst 1, 1) := by decide +kernel
theorem dX4_isFull_41 : decode cX4_isFull 41 = .ok (.goto 4, 3) := by decide +kernel
theorem dX4_isFull_44 : decode cX4_isFull 44 = .ok (.iconst 0, 1) := by decide +kernel
theorem dX4_isFull_45 : decode cX4_isFull 45 = .ok (.ireturn, 1) := by decide +kernel
theorem dX4_isFull_46 : decode cX4_isFull 46 = .ok (.iload_n 1, 1) := by decide +kernel
theorem dX4_isFull_47 : decode cX4_isFull 47 = .ok (.iconst 3, 1) := by decide +kernel
theorem dX4_isFull_48 : decode cX4_isFull 48 = .ok (.if_icmp .le 18, 3) := by decide +kernel
theorem dX4_isFull_51 : decode cX4_isFull 51 = .ok (.aload_n 0, 1) := by decide +kernel
theorem dX4_isFull_52 : decode cX4_isFull 52 = .ok (.getfield 15, 3) := by decide +kernel
theorem dX4_isFull_55 : decode cX4_isFull 55 = .ok (.getfield 83, 3) := by decide +kernel
theorem dX4_isFull_58 : decode cX4_isFull 58 = .ok (.iconst 4, 1) := by decide +kernel
theorem dX4_isFull_59 : decode cX4_isFull 59 = .ok (.if_icmp .lt 7, 3) := by decide +kernel
theorem dX4_isFull_62 : decode cX4_isFull 62 = .ok (.iconst 1, 1) := by decide +kernel
theorem dX4_isFull_63 : decode cX4_isFull 63 = .ok (.goto 4, 3) := by decide +kernel
theorem dX4_isFull_66 : decode cX4_isFull 66 = .ok (.iconst 0, 1) := by decide +kernel
theorem dX4_isFull_67 : decode cX4_isFull 67 = .ok (.ireturn, 1) := by decide +kernel
theorem dX4_readWide_0 : decode cX4_readWide 0 = .ok (.aload_n 0, 1) := by decide +kernel
theorem dX4_readWide_1 : decode cX4_readWide 1 = .ok (.getfield 9, 3) := by decide +kernel
theorem dX4_readWide_4 : decode cX4_readWide 4 = .ok (.iconst 2, 1) := by decide +kernel
theorem dX4_readWide_5 : decode cX4_readWide 5 = .ok (.bipush 6, 2) := by decide +kernel
theorem dX4_readWide_7 : decode cX4_readWide 7 = .ok (.invokevirtual 86, 3) := by decide +kernel
theorem dX4_readWide_10 : decode cX4_readWide 10 = .ok (.ifCond .ne 5, 3) := by decide +kernel
theorem dX4_readWide_13 : decode cX4_readWide 13 = .ok (.iconst 0, 1) := by decide +kernel
theorem dX4_readWide_14 : decode cX4_readWide 14 = .ok (.ireturn, 1) := by decide +kernel
theorem dX4_readWide_15 : decode cX4_readWide 15 = .ok (.aload_n 0, 1) := by decide +kernel
theorem dX4_readWide_16 : decode cX4_readWide 16 = .ok (.getfield 15, 3) := by decide +kernel
theorem dX4_readWide_19 : decode cX4_readWide 19 = .ok (.aload_n 0, 1) := by decide +kernel
theorem dX4_readWide_20 : decode cX4_readWide 20 = .ok (.getfield 9, 3) := by decide +kernel
theorem dX4_readWide_23 : decode cX4_readWide 23 = .ok (.getfield 90, 3) := by decide +kernel
theorem dX4_readWide_26 : decode cX4_readWide 26 = .ok (.putfield 93, 3) := by decide +kernel
theorem dX4_readWide_29 : decode cX4_readWide 29 = .ok (.aload_n 0, 1) := by decide +kernel
theorem dX4_readWide_30 : decode cX4_readWide 30 = .ok (.getfield 9, 3) := by decide +kernel
theorem dX4_readWide_33 : decode cX4_readWide 33 = .ok (.iconst 2, 1) := by decide +kernel
theorem dX4_readWide_34 : decode cX4_readWide 34 = .ok (.bipush 6, 2) := by decide +kernel
theorem dX4_readWide_36 : decode cX4_readWide 36 = .ok (.invokevirtual 86, 3) := by decide +kernel
theorem dX4_readWide_39 : decode cX4_readWide 39 = .ok (.ifCond .ne 5, 3) := by decide +kernel
theorem dX4_readWide_42 : decode cX4_readWide 42 = .ok (.iconst 0, 1) := by decide +kernel
theorem dX4_readWide_43 : decode cX4_readWide 43 = .ok (.ireturn, 1) := by decide +kernel
theorem dX4_readWide_44 : decode cX4_readWide 44 = .ok (.aload_n 0, 1) := by decide +kernel
theorem dX4_readWide_45 : decode cX4_readWide 45 = .ok (.getfield 15, 3) := by decide +kernel
theorem dX4_readWide_48 : decode cX4_readWide 48 = .ok (.aload_n 0, 1) := by decide +kernel
theorem dX4_readWide_49 : decode cX4_readWide 49 = .ok (.getfield 9, 3) := by decide +kernel
theorem dX4_readWide_52 : decode cX4_readWide 52 = .ok (.getfield 90, 3) := by decide +kernel
theorem dX4_readWide_55 : decode cX4_readWide 55 = .ok (.putfield 96, 3) := by decide +kernel
theorem dX4_readWide_58 : decode cX4_readWide 58 = .ok (.iconst 1, 1) := by decide +kernel
theorem dX4_readWide_59 : decode cX4_readWide 59 = .ok (.ireturn, 1) := by decide +kernel
theorem dX4_readSquare_0 : decode cX4_readSquare 0 = .ok (.aload_n 0, 1) := by decide +kernel
theorem dX4_readSquare_1 : decode cX4_readSquare 1 = .ok (.getfield 9, 3) := by decide +kernel
theorem dX4_readSquare_4 : decode cX4_readSquare 4 = .ok (.iconst 0, 1) := by decide +kernel
theorem dX4_readSquare_5 : decode cX4_readSquare 5 = .ok (.aload_n 0, 1) := by decide +kernel
theorem dX4_readSquare_6 : decode cX4_readSquare 6 = .ok (.getfield 15, 3) := by decide +kernel
theorem dX4_readSquare_9 : decode cX4_readSquare 9 = .ok (.getfield 93, 3) := by decide +kernel
theorem dX4_readSquare_12 : decode cX4_readSquare 12 = .ok (.iconst 1, 1) := by decide +kernel
theorem dX4_readSquare_13 : decode cX4_readSquare 13 = .ok (.isub, 1) := by decide +kernel
theorem dX4_readSquare_14 : decode cX4_readSquare 14 = .ok (.invokevirtual 86, 3) := by decide +kernel
theorem dX4_readSquare_17 : decode cX4_readSquare 17 = .ok (.ifCond .ne 5, 3) := by decide +kernel
theorem dX4_readSquare_20 : decode cX4_readSquare 20 = .ok (.iconst 0, 1) := by decide +kernel
theorem dX4_readSquare_21 : decode cX4_readSquare 21 = .ok (.ireturn, 1) := by decide +kernel
theorem dX4_readSquare_22 : decode cX4_readSquare 22 = .ok (.aload_n 0, 1) := by decide +kernel
theorem dX4_readSquare_23 : decode cX4_readSquare 23 = .ok (.aload_n 0, 1) := by decide +kernel
theorem dX4_readSquare_24 : decode cX4_readSquare 24 = .ok (.getfield 9, 3) := by decide +kernel
theorem dX4_readSquare_27 : decode cX4_readSquare 27 = .ok (.getfield 90, 3) := by decide +kernel
theorem dX4_readSquare_30 : decode cX4_readSquare 30 = .ok (.putfield 99, 3) := by decide +kernel
theorem dX4_readSquare_33 : decode cX4_readSquare 33 = .ok (.aload_n 0, 1) := by decide +kernel
theorem dX4_readSquare_34 : decode cX4_readSquare 34 = .ok (.getfield 9, 3) := by decide +kernel
theorem dX4_readSquare_37 : decode cX4_readSquare 37 = .ok (.iconst 0, 1) := by decide +kernel
theorem dX4_readSquare_38 : decode cX4_readSquare 38 = .ok (.aload_n 0, 1) := by decide +kernel
theorem dX4_readSquare_39 : decode cX4_readSquare 39 = .ok (.getfield 15, 3) := by decide +kernel
theorem dX4_readSquare_42 : decode cX4_readSquare 42 = .ok (.getfield 96, 3) := by decide +kernel
theorem dX4_readSquare_45 : decode cX4_readSquare 45 = .ok (.iconst 1, 1) := by decide +kernel
theorem dX4_readSquare_46 : decode cX4_readSquare 46 = .ok (.isub, 1) := by decide +kernel
theorem dX4_readSquare_47 : decode cX4_readSquare 47 = .ok (.invokevirtual 86, 3) := by decide +kernel
theorem dX4_readSquare_50 : decode cX4_readSquare 50 = .ok (.ifCond .ne 5, 3) := by decide +kernel
theorem dX4_readSquare_53 : decode cX4_readSquare 53 = .ok (.iconst 0, 1) := by decide +kernel
theorem dX4_readSquare_54 : decode cX4_readSquare 54 = .ok (.ireturn, 1) := by decide +kernel
theorem dX4_readSquare_55 : decode cX4_readSquare 55 = .ok (.aload_n 0, 1) := by decide +kernel
theorem dX4_readSquare_56 : decode cX4_readSquare 56 = .ok (.aload_n 0, 1) := by decide +kernel
theorem dX4_readSquare_57 : decode cX4_readSquare 57 = .ok (.getfield 9, 3) := by decide +kernel
theorem dX4_readSquare_60 : decode cX4_readSquare 60 = .ok (.getfield 90, 3) := by decide +kernel
theorem dX4_readSquare_63 : decode cX4_readSquare 63 = .ok (.putfield 102, 3) := by decide +kernel
theorem dX4_readSquare_66 : decode cX4_readSquare 66 = .ok (.iconst 1, 1) := by decide +kernel
theorem dX4_readSquare_67 : decode cX4_readSquare 67 = .ok (.ireturn, 1) := by decide +kernel
theorem dX4_readBox_0 : decode cX4_readBox 0 = .ok (.aload_n 0, 1) := by decide +kernel
theorem dX4_readBox_1 : decode cX4_readBox 1 = .ok (.invokevirtual 105, 3) := by decide +kernel
theorem dX4_readBox_4 : decode cX4_readBox 4 = .ok (.ifCond .eq 26, 3) := by decide +kernel
theorem dX4_readBox_7 : decode cX4_readBox 7 = .ok (.aload_n 0, 1) := by decide +kernel
theorem dX4_readBox_8 : decode cX4_readBox 8 = .ok (.getfield 9, 3) := by decide +kernel
theorem dX4_readBox_11 : decode cX4_readBox 11 = .ok (.aload_n 0, 1) := by decide +kernel
theorem dX4_readBox_12 : decode cX4_readBox 12 = .ok (.getfield 99, 3) := by decide +kernel
theorem dX4_readBox_15 : decode cX4_readBox 15 = .ok (.aload_n 0, 1) := by decide +kernel
theorem dX4_readBox_16 : decode cX4_readBox 16 = .ok (.getfield 15, 3) := by decide +kernel
theorem dX4_readBox_19 : decode cX4_readBox 19 = .ok (.getfield 93, 3) := by decide +kernel
theorem dX4_readBox_22 : decode cX4_readBox 22 = .ok (.iconst 1, 1) := by decide +kernel
theorem dX4_readBox_23 : decode cX4_readBox 23 = .ok (.isub, 1) := by decide +kernel
theorem dX4_readBox_24 : decode cX4_readBox 24 = .ok (.invokevirtual 86, 3) := by decide +kernel
theorem dX4_readBox_27 : decode cX4_readBox 27 = .ok (.ifCond .ne 5, 3) := by decide +kernel
theorem dX4_readBox_30 : decode cX4_readBox 30 = .ok (.iconst 0, 1) := by decide +kernel
theorem dX4_readBox_31 : decode cX4_readBox 31 = .ok (.ireturn, 1) := by decide +kernel
theorem dX4_readBox_32 : decode cX4_readBox 32 = .ok (.aload_n 0, 1) := by decide +kernel
theorem dX4_readBox_33 : decode cX4_readBox 33 = .ok (.aload_n 0, 1) := by decide +kernel
theorem dX4_readBox_34 : decode cX4_readBox 34 = .ok (.getfield 9, 3) := by decide +kernel
theorem dX4_readBox_37 : decode cX4_readBox 37 = .ok (.getfield 90, 3) := by decide +kernel
theorem dX4_readBox_40 : decode cX4_readBox 40 = .ok (.putfield 108, 3) := by decide +kernel
theorem dX4_readBox_43 : decode cX4_readBox 43 = .ok (.aload_n 0, 1) := by decide +kernel
theorem dX4_readBox_44 : decode cX4_readBox 44 = .ok (.getfield 9, 3) := by decide +kernel
theorem dX4_readBox_47 : decode cX4_readBox 47 = .ok (.aload_n 0, 1) := by decide +kernel
theorem dX4_readBox_48 : decode cX4_readBox 48 = .ok (.getfield 102, 3) := by decide +kernel
theorem dX4_readBox_51 : decode cX4_readBox 51 = .ok (.aload_n 0, 1) := by decide +kernel
theorem dX4_readBox_52 : decode cX4_readBox 52 = .ok (.getfield 15, 3) := by decide +kernel
theorem dX4_readBox_55 : decode cX4_readBox 55 = .ok (.getfield 96, 3) := by decide +kernel
theorem dX4_readBox_58 : decode cX4_readBox 58 = .ok (.iconst 1, 1) := by decide +kernel
theorem dX4_readBox_59 : decode cX4_readBox 59 = .ok (.isub, 1) := by decide +kernel
theorem dX4_readBox_60 : decode cX4_readBox 60 = .ok (.invokevirtual 86, 3) := by decide +kernel
theorem dX4_readBox_63 : decode cX4_readBox 63 = .ok (.ifCond .ne 5, 3) := by decide +kernel
theorem dX4_readBox_66 : decode cX4_readBox 66 = .ok (.iconst 0, 1) := by decide +kernel
theorem dX4_readBox_67 : decode cX4_readBox 67 = .ok (.ireturn, 1) := by decide +kernel
theorem dX4_readBox_68 : decode cX4_readBox 68 = .ok (.aload_n 0, 1) := by decide +kernel
theorem dX4_readBox_69 : decode cX4_readBox 69 = .ok (.aload_n 0, 1) := by decide +kernel
theorem dX4_readBox_70 : decode cX4_readBox 70 = .ok (.getfield 9, 3) := by decide +kernel
theorem dX4_readBox_73 : decode cX4_readBox 73 = .ok (.getfield 90, 3) := by decide +kernel
theorem dX4_readBox_76 : decode cX4_readBox 76 = .ok (.putfield 111, 3) := by decide +kernel
theorem dX4_readBox_79 : decode cX4_readBox 79 = .ok (.iconst 1, 1) := by decide +kernel
theorem dX4_readBox_80 : decode cX4_readBox 80 = .ok (.ireturn, 1) := by decide +kernel
theorem dX4_readWood_0 : decode cX4_readWood 0 = .ok (.aload_n 0, 1) := by decide +kernel
theorem dX4_readWood_1 : decode cX4_readWood 1 = .ok (.invokevirtual 114, 3) := by decide +kernel
theorem dX4_readWood_4 : decode cX4_readWood 4 = .ok (.ifCond .ne 5, 3) := by decide +kernel
theorem dX4_readWood_7 : decode cX4_readWood 7 = .ok (.iconst 0, 1) := by decide +kernel
theorem dX4_readWood_8 : decode cX4_readWood 8 = .ok (.ireturn, 1) := by decide +kernel
theorem dX4_readWood_9 : decode cX4_readWood 9 = .ok (.aload_n 0, 1) := by decide +kernel
theorem dX4_readWood_10 : decode cX4_readWood 10 = .ok (.getfield 15, 3) := by decide +kernel
theorem dX4_readWood_13 : decode cX4_readWood 13 = .ok (.dup, 1) := by decide +kernel
theorem dX4_readWood_14 : decode cX4_readWood 14 = .ok (.getfield 117, 3) := by decide +kernel
theorem dX4_readWood_17 : decode cX4_readWood 17 = .ok (.aload_n 0, 1) := by decide +kernel
theorem dX4_readWood_18 : decode cX4_readWood 18 = .ok (.getfield 99, 3) := by decide +kernel
theorem dX4_readWood_21 : decode cX4_readWood 21 = .ok (.aload_n 0, 1) := by decide +kernel
theorem dX4_readWood_22 : decode cX4_readWood 22 = .ok (.getfield 102, 3) := by decide +kernel
theorem dX4_readWood_25 : decode cX4_readWood 25 = .ok (.aload_n 0, 1) := by decide +kernel
theorem dX4_readWood_26 : decode cX4_readWood 26 = .ok (.getfield 108, 3) := by decide +kernel
theorem dX4_readWood_29 : decode cX4_readWood 29 = .ok (.aload_n 0, 1) := by decide +kernel
theorem dX4_readWood_30 : decode cX4_readWood 30 = .ok (.getfield 111, 3) := by decide +kernel
theorem dX4_readWood_33 : decode cX4_readWood 33 = .ok (.invokestatic 121, 3) := by decide +kernel
theorem dX4_readWood_36 : decode cX4_readWood 36 = .ok (.lor, 1) := by decide +kernel
theorem dX4_readWood_37 : decode cX4_readWood 37 = .ok (.putfield 117, 3) := by decide +kernel
theorem dX4_readWood_40 : decode cX4_readWood 40 = .ok (.iconst 1, 1) := by decide +kernel
theorem dX4_readWood_41 : decode cX4_readWood 41 = .ok (.ireturn, 1) := by decide +kernel
theorem dX4_readHill_0 : decode cX4_readHill 0 = .ok (.aload_n 0, 1) := by decide +kernel
theorem dX4_readHill_1 : decode cX4_readHill 1 = .ok (.getfield 9, 3) := by decide +kernel
theorem dX4_readHill_4 : decode cX4_readHill 4 = .ok (.getfield 127, 3) := by decide +kernel
theorem dX4_readHill_7 : decode cX4_readHill 7 = .ok (.istore_n 1, 1) := by decide +kernel
theorem dX4_readHill_8 : decode cX4_readHill 8 = .ok (.aload_n 0, 1) := by decide +kernel
theorem dX4_readHill_9 : decode cX4_readHill 9 = .ok (.invokevirtual 105, 3) := by decide +kernel
theorem dX4_readHill_12 : decode cX4_readHill 12 = .ok (.ifCond .ne 5, 3) := by decide +kernel
theorem dX4_readHill_15 : decode cX4_readHill 15 = .ok (.iconst 0, 1) := by decide +kernel
theorem dX4_readHill_16 : decode cX4_readHill 16 = .ok (.ireturn, 1) := by decide +kernel
theorem dX4_readHill_17 : decode cX4_readHill 17 = .ok (.aload_n 0, 1) := by decide +kernel
theorem dX4_readHill_18 : decode cX4_readHill 18 = .ok (.getfield 15, 3) := by decide +kernel
theorem dX4_readHill_21 : decode cX4_readHill 21 = .ok (.bipush 6, 2) := by decide +kernel
theorem dX4_readHill_23 : decode cX4_readHill 23 = .ok (.aload_n 0, 1) := by decide +kernel
theorem dX4_readHill_24 : decode cX4_readHill 24 = .ok (.getfield 102, 3) := by decide +kernel
theorem dX4_readHill_27 : decode cX4_readHill 27 = .ok (.imul, 1) := by decide +kernel
theorem dX4_readHill_28 : decode cX4_readHill 28 = .ok (.aload_n 0, 1) := by decide +kernel
theorem dX4_readHill_29 : decode cX4_readHill 29 = .ok (.getfield 99, 3) := by decide +kernel
theorem dX4_readHill_32 : decode cX4_readHill 32 = .ok (.iadd, 1) := by decide +kernel
theorem dX4_readHill_33 : decode cX4_readHill 33 = .ok (.invokevirtual 130, 3) := by decide +kernel
theorem dX4_readHill_36 : decode cX4_readHill 36 = .ok (.iconst (-1), 1) := by decide +kernel
theorem dX4_readHill_37 : decode cX4_readHill 37 = .ok (.if_icmp .eq 13, 3) := by decide +kernel
theorem dX4_readHill_40 : decode cX4_readHill 40 = .ok (.aload_n 0, 1) := by decide +kernel
theorem dX4_readHill_41 : decode cX4_readHill 41 = .ok (.getfield 9, 3) := by decide +kernel
theorem dX4_readHill_44 : decode cX4_readHill 44 = .ok (.iload_n 1, 1) := by decide +kernel
theorem dX4_readHill_45 : decode cX4_readHill 45 = .ok (.iconst 5, 1) := by decide +kernel
theorem dX4_readHill_46 : decode cX4_readHill 46 = .ok (.invokevirtual 134, 3) := by decide +kernel
theorem dX4_readHill_49 : decode cX4_readHill 49 = .ok (.ireturn, 1) := by decide +kernel
theorem dX4_readHill_50 : decode cX4_readHill 50 = .ok (.aload_n 0, 1) := by decide +kernel
theorem dX4_readHill_51 : decode cX4_readHill 51 = .ok (.getfield 9, 3) := by decide +kernel
theorem dX4_readHill_54 : decode cX4_readHill 54 = .ok (.iconst 1, 1) := by decide +kernel
theorem dX4_readHill_55 : decode cX4_readHill 55 = .ok (.bipush 9, 2) := by decide +kernel
theorem dX4_readHill_57 : decode cX4_readHill 57 = .ok (.invokevirtual 86, 3) := by decide +kernel
theorem dX4_readHill_60 : decode cX4_readHill 60 = .ok (.ifCond .ne 5, 3) := by decide +kernel
theorem dX4_readHill_63 : decode cX4_readHill 63 = .ok (.iconst 0, 1) := by decide +kernel
theorem dX4_readHill_64 : decode cX4_readHill 64 = .ok (.ireturn, 1) := by decide +kernel
theorem dX4_readHill_65 : decode cX4_readHill 65 = .ok (.aload_n 0, 1) := by decide +kernel
theorem dX4_readHill_66 : decode cX4_readHill 66 = .ok (.getfield 15, 3) := by decide +kernel
theorem dX4_readHill_69 : decode cX4_readHill 69 = .ok (.getfield 137, 3) := by decide +kernel
theorem dX4_readHill_72 : decode cX4_readHill 72 = .ok (.aload_n 0, 1) := by decide +kernel
theorem dX4_readHill_73 : decode cX4_readHill 73 = .ok (.getfield 15, 3) := by decide +kernel
theorem dX4_readHill_76 : decode cX4_readHill 76 = .ok (.getfield 77, 3) := by decide +kernel
theorem dX4_readHill_79 : decode cX4_readHill 79 = .ok (.bipush 6, 2) := by decide +kernel
theorem dX4_readHill_81 : decode cX4_readHill 81 = .ok (.aload_n 0, 1) := by decide +kernel
theorem dX4_readHill_82 : decode cX4_readHill 82 = .ok (.getfield 102, 3) := by decide +kernel
theorem dX4_readHill_85 : decode cX4_readHill 85 = .ok (.imul, 1) := by decide +kernel
theorem dX4_readHill_86 : decode cX4_readHill 86 = .ok (.aload_n 0, 1) := by decide +kernel
theorem dX4_readHill_87 : decode cX4_readHill 87 = .ok (.getfield 99, 3) := by decide +kernel
theorem dX4_readHill_90 : decode cX4_readHill 90 = .ok (.iadd, 1) := by decide +kernel
theorem dX4_readHill_91 : decode cX4_readHill 91 = .ok (.iastore, 1) := by decide +kernel
theorem dX4_readHill_92 : decode cX4_readHill 92 = .ok (.aload_n 0, 1) := by decide +kernel
theorem dX4_readHill_93 : decode cX4_readHill 93 = .ok (.getfield 15, 3) := by decide +kernel
theorem dX4_readHill_96 : decode cX4_readHill 96 = .ok (.getfield 141, 3) := by decide +kernel
theorem dX4_readHill_99 : decode cX4_readHill 99 = .ok (.aload_n 0, 1) := by decide +kernel
theorem dX4_readHill_100 : decode cX4_readHill 100 = .ok (.getfield 15, 3) := by decide +kernel
theorem dX4_readHill_103 : decode cX4_readHill 103 = .ok (.getfield 77, 3) := by decide +kernel
theorem dX4_readHill_106 : decode cX4_readHill 106 = .ok (.aload_n 0, 1) := by decide +kernel
theorem dX4_readHill_107 : decode cX4_readHill 107 = .ok (.getfield 9, 3) := by decide +kernel
theorem dX4_readHill_110 : decode cX4_readHill 110 = .ok (.getfield 90, 3) := by decide +kernel
theorem dX4_readHill_113 : decode cX4_readHill 113 = .ok (.iastore, 1) := by decide +kernel
theorem dX4_readHill_114 : decode cX4_readHill 114 = .ok (.aload_n 0, 1) := by decide +kernel
theorem dX4_readHill_115 : decode cX4_readHill 115 = .ok (.getfield 15, 3) := by decide +kernel
theorem dX4_readHill_118 : decode cX4_readHill 118 = .ok (.dup, 1) := by decide +kernel
theorem dX4_readHill_119 : decode cX4_readHill 119 = .ok (.getfield 77, 3) := by decide +kernel
theorem dX4_readHill_122 : decode cX4_readHill 122 = .ok (.iconst 1, 1) := by decide +kernel
theorem dX4_readHill_123 : decode cX4_readHill 123 = .ok (.iadd, 1) := by decide +kernel
theorem dX4_readHill_124 : decode cX4_readHill 124 = .ok (.putfield 77, 3) := by decide +kernel
theorem dX4_readHill_127 : decode cX4_readHill 127 = .ok (.iconst 1, 1) := by decide +kernel
theorem dX4_readHill_128 : decode cX4_readHill 128 = .ok (.ireturn, 1) := by decide +kernel
theorem dX4_readRoad_0 : decode cX4_readRoad 0 = .ok (.aload_n 0, 1) := by decide +kernel
theorem dX4_readRoad_1 : decode cX4_readRoad 1 = .ok (.getfield 9, 3) := by decide +kernel
theorem dX4_readRoad_4 : decode cX4_readRoad 4 = .ok (.getfield 127, 3) := by decide +kernel
theorem dX4_readRoad_7 : decode cX4_readRoad 7 = .ok (.istore_n 1, 1) := by decide +kernel
theorem dX4_readRoad_8 : decode cX4_readRoad 8 = .ok (.aload_n 0, 1) := by decide +kernel
theorem dX4_readRoad_9 : decode cX4_readRoad 9 = .ok (.invokevirtual 114, 3) := by decide +kernel
theorem dX4_readRoad_12 : decode cX4_readRoad 12 = .ok (.ifCond .ne 5, 3) := by decide +kernel
theorem dX4_readRoad_15 : decode cX4_readRoad 15 = .ok (.iconst 0, 1) := by decide +kernel
theorem dX4_readRoad_16 : decode cX4_readRoad 16 = .ok (.ireturn, 1) := by decide +kernel
theorem dX4_readRoad_17 : decode cX4_readRoad 17 = .ok (.aload_n 0, 1) := by decide +kernel
theorem dX4_readRoad_18 : decode cX4_readRoad 18 = .ok (.getfield 99, 3) := by decide +kernel
theorem dX4_readRoad_21 : decode cX4_readRoad 21 = .ok (.aload_n 0, 1) := by decide +kernel
theorem dX4_readRoad_22 : decode cX4_readRoad 22 = .ok (.getfield 108, 3) := by decide +kernel
theorem dX4_readRoad_25 : decode cX4_readRoad 25 = .ok (.if_icmp .eq 24, 3) := by decide +kernel
theorem dX4_readRoad_28 : decode cX4_readRoad 28 = .ok (.aload_n 0, 1) := by decide +kernel
theorem dX4_readRoad_29 : decode cX4_readRoad 29 = .ok (.getfield 102, 3) := by decide +kernel
theorem dX4_readRoad_32 : decode cX4_readRoad 32 = .ok (.aload_n 0, 1) := by decide +kernel
theorem dX4_readRoad_33 : decode cX4_readRoad 33 = .ok (.getfield 111, 3) := by decide +kernel
theorem dX4_readRoad_36 : decode cX4_readRoad 36 = .ok (.if_icmp .eq 13, 3) := by decide +kernel
theorem dX4_readRoad_39 : decode cX4_readRoad 39 = .ok (.aload_n 0, 1) := by decide +kernel
theorem dX4_readRoad_40 : decode cX4_readRoad 40 = .ok (.getfield 9, 3) := by decide +kernel
theorem dX4_readRoad_43 : decode cX4_readRoad 43 = .ok (.iload_n 1, 1) := by decide +kernel
theorem dX4_readRoad_44 : decode cX4_readRoad 44 = .ok (.iconst 5, 1) := by decide +kernel
theorem dX4_readRoad_45 : decode cX4_readRoad 45 = .ok (.invokevirtual 134, 3) := by decide +kernel
theorem dX4_readRoad_48 : decode cX4_readRoad 48 = .ok (.ireturn, 1) := by decide +kernel
theorem dX4_readRoad_49 : decode cX4_readRoad 49 = .ok (.aload_n 0, 1) := by decide +kernel
theorem dX4_readRoad_50 : decode cX4_readRoad 50 = .ok (.getfield 15, 3) := by decide +kernel
theorem dX4_readRoad_53 : decode cX4_readRoad 53 = .ok (.getfield 144, 3) := by decide +kernel
theorem dX4_readRoad_56 : decode cX4_readRoad 56 = .ok (.aload_n 0, 1) := by decide +kernel
theorem dX4_readRoad_57 : decode cX4_readRoad 57 = .ok (.getfield 15, 3) := by decide +kernel
theorem dX4_readRoad_60 : decode cX4_readRoad 60 = .ok (.getfield 80, 3) := by decide +kernel
theorem dX4_readRoad_63 : decode cX4_readRoad 63 = .ok (.aload_n 0, 1) := by decide +kernel
theorem dX4_readRoad_64 : decode cX4_readRoad 64 = .ok (.getfield 99, 3) := by decide +kernel
theorem dX4_readRoad_67 : decode cX4_readRoad 67 = .ok (.aload_n 0, 1) := by decide +kernel
theorem dX4_readRoad_68 : decode cX4_readRoad 68 = .ok (.getfield 102, 3) := by decide +kernel
theorem dX4_readRoad_71 : decode cX4_readRoad 71 = .ok (.aload_n 0, 1) := by decide +kernel
theorem dX4_readRoad_72 : decode cX4_readRoad 72 = .ok (.getfield 108, 3) := by decide +kernel
theorem dX4_readRoad_75 : decode cX4_readRoad 75 = .ok (.aload_n 0, 1) := by decide +kernel
theorem dX4_readRoad_76 : decode cX4_readRoad 76 = .ok (.getfield 111, 3) := by decide +kernel
theorem dX4_readRoad_79 : decode cX4_readRoad 79 = .ok (.invokestatic 121, 3) := by decide +kernel
theorem dX4_readRoad_82 : decode cX4_readRoad 82 = .ok (.lastore, 1) := by decide +kernel
theorem dX4_readRoad_83 : decode cX4_readRoad 83 = .ok (.aload_n 0, 1) := by decide +kernel
theorem dX4_readRoad_84 : decode cX4_readRoad 84 = .ok (.getfield 15, 3) := by decide +kernel
theorem dX4_readRoad_87 : decode cX4_readRoad 87 = .ok (.dup, 1) := by decide +kernel
theorem dX4_readRoad_88 : decode cX4_readRoad 88 = .ok (.getfield 80, 3) := by decide +kernel
theorem dX4_readRoad_91 : decode cX4_readRoad 91 = .ok (.iconst 1, 1) := by decide +kernel
theorem dX4_readRoad_92 : decode cX4_readRoad 92 = .ok (.iadd, 1) := by decide +kernel
theorem dX4_readRoad_93 : decode cX4_readRoad 93 = .ok (.putfield 80, 3) := by decide +kernel
theorem dX4_readRoad_96 : decode cX4_readRoad 96 = .ok (.iconst 1, 1) := by decide +kernel
theorem dX4_readRoad_97 : decode cX4_readRoad 97 = .ok (.ireturn, 1) := by decide +kernel
theorem dX4_readSort_0 : decode cX4_readSort 0 = .ok (.aload_n 0, 1) := by decide +kernel
theorem dX4_readSort_1 : decode cX4_readSort 1 = .ok (.getfield 9, 3) := by decide +kernel
theorem dX4_readSort_4 : decode cX4_readSort 4 = .ok (.getfield 127, 3) := by decide +kernel
theorem dX4_readSort_7 : decode cX4_readSort 7 = .ok (.istore_n 1, 1) := by decide +kernel
theorem dX4_readSort_8 : decode cX4_readSort 8 = .ok (.aload_n 0, 1) := by decide +kernel
theorem dX4_readSort_9 : decode cX4_readSort 9 = .ok (.getfield 9, 3) := by decide +kernel
theorem dX4_readSort_12 : decode cX4_readSort 12 = .ok (.iconst 0, 1) := by decide +kernel
theorem dX4_readSort_13 : decode cX4_readSort 13 = .ok (.iconst 4, 1) := by decide +kernel
theorem dX4_readSort_14 : decode cX4_readSort 14 = .ok (.invokevirtual 86, 3) := by decide +kernel
theorem dX4_readSort_17 : decode cX4_readSort 17 = .ok (.ifCond .ne 5, 3) := by decide +kernel
theorem dX4_readSort_20 : decode cX4_readSort 20 = .ok (.iconst 0, 1) := by decide +kernel
theorem dX4_readSort_21 : decode cX4_readSort 21 = .ok (.ireturn, 1) := by decide +kernel
theorem dX4_readSort_22 : decode cX4_readSort 22 = .ok (.aload_n 0, 1) := by decide +kernel
theorem dX4_readSort_23 : decode cX4_readSort 23 = .ok (.getfield 15, 3) := by decide +kernel
theorem dX4_readSort_26 : decode cX4_readSort 26 = .ok (.getfield 148, 3) := by decide +kernel
theorem dX4_readSort_29 : decode cX4_readSort 29 = .ok (.aload_n 0, 1) := by decide +kernel
theorem dX4_readSort_30 : decode cX4_readSort 30 = .ok (.getfield 9, 3) := by decide +kernel
theorem dX4_readSort_33 : decode cX4_readSort 33 = .ok (.getfield 90, 3) := by decide +kernel
theorem dX4_readSort_36 : decode cX4_readSort 36 = .ok (.iadd, 1) := by decide +kernel
theorem dX4_readSort_37 : decode cX4_readSort 37 = .ok (.iconst 4, 1) := by decide +kernel
theorem dX4_readSort_38 : decode cX4_readSort 38 = .ok (.if_icmp .le 13, 3) := by decide +kernel
theorem dX4_readSort_41 : decode cX4_readSort 41 = .ok (.aload_n 0, 1) := by decide +kernel
theorem dX4_readSort_42 : decode cX4_readSort 42 = .ok (.getfield 9, 3) := by decide +kernel
theorem dX4_readSort_45 : decode cX4_readSort 45 = .ok (.iload_n 1, 1) := by decide +kernel
theorem dX4_readSort_46 : decode cX4_readSort 46 = .ok (.iconst 5, 1) := by decide +kernel
theorem dX4_readSort_47 : decode cX4_readSort 47 = .ok (.invokevirtual 134, 3) := by decide +kernel
theorem dX4_readSort_50 : decode cX4_readSort 50 = .ok (.ireturn, 1) := by decide +kernel
theorem dX4_readSort_51 : decode cX4_readSort 51 = .ok (.aload_n 0, 1) := by decide +kernel
theorem dX4_readSort_52 : decode cX4_readSort 52 = .ok (.getfield 15, 3) := by decide +kernel
theorem dX4_readSort_55 : decode cX4_readSort 55 = .ok (.getfield 151, 3) := by decide +kernel
theorem dX4_readSort_58 : decode cX4_readSort 58 = .ok (.aload_n 0, 1) := by decide +kernel
theorem dX4_readSort_59 : decode cX4_readSort 59 = .ok (.getfield 15, 3) := by decide +kernel
theorem dX4_readSort_62 : decode cX4_readSort 62 = .ok (.getfield 83, 3) := by decide +kernel
theorem dX4_readSort_65 : decode cX4_readSort 65 = .ok (.aload_n 0, 1) := by decide +kernel
theorem dX4_readSort_66 : decode cX4_readSort 66 = .ok (.getfield 9, 3) := by decide +kernel
theorem dX4_readSort_69 : decode cX4_readSort 69 = .ok (.getfield 90, 3) := by decide +kernel
theorem dX4_readSort_72 : decode cX4_readSort 72 = .ok (.iastore, 1) := by decide +kernel
theorem dX4_readSort_73 : decode cX4_readSort 73 = .ok (.aload_n 0, 1) := by decide +kernel
theorem dX4_readSort_74 : decode cX4_readSort 74 = .ok (.getfield 15, 3) := by decide +kernel
theorem dX4_readSort_77 : decode cX4_readSort 77 = .ok (.dup, 1) := by decide +kernel
theorem dX4_readSort_78 : decode cX4_readSort 78 = .ok (.getfield 83, 3) := by decide +kernel
theorem dX4_readSort_81 : decode cX4_readSort 81 = .ok (.iconst 1, 1) := by decide +kernel
theorem dX4_readSort_82 : decode cX4_readSort 82 = .ok (.iadd, 1) := by decide +kernel
theorem dX4_readSort_83 : decode cX4_readSort 83 = .ok (.putfield 83, 3) := by decide +kernel
theorem dX4_readSort_86 : decode cX4_readSort 86 = .ok (.aload_n 0, 1) := by decide +kernel
theorem dX4_readSort_87 : decode cX4_readSort 87 = .ok (.getfield 15, 3) := by decide +kernel
theorem dX4_readSort_90 : decode cX4_readSort 90 = .ok (.dup, 1) := by decide +kernel
theorem dX4_readSort_91 : decode cX4_readSort 91 = .ok (.getfield 148, 3) := by decide +kernel
theorem dX4_readSort_94 : decode cX4_readSort 94 = .ok (.aload_n 0, 1) := by decide +kernel
theorem dX4_readSort_95 : decode cX4_readSort 95 = .ok (.getfield 9, 3) := by decide +kernel
theorem dX4_readSort_98 : decode cX4_readSort 98 = .ok (.getfield 90, 3) := by decide +kernel
theorem dX4_readSort_101 : decode cX4_readSort 101 = .ok (.iadd, 1) := by decide +kernel
theorem dX4_readSort_102 : decode cX4_readSort 102 = .ok (.putfield 148, 3) := by decide +kernel
theorem dX4_readSort_105 : decode cX4_readSort 105 = .ok (.iconst 1, 1) := by decide +kernel
theorem dX4_readSort_106 : decode cX4_readSort 106 = .ok (.ireturn, 1) := by decide +kernel
theorem dX5_init_0 : decode cX5_init 0 = .ok (.aload_n 0, 1) := by decide +kernel
theorem dX5_init_1 : decode cX5_init 1 = .ok (.invokespecial 3, 3) := by decide +kernel
theorem dX5_init_4 : decode cX5_init 4 = .ok (.aload_n 0, 1) := by decide +kernel
theorem dX5_init_5 : decode cX5_init 5 = .ok (.bipush 12, 2) := by decide +kernel
theorem dX5_init_7 : decode cX5_init 7 = .ok (.newarray .int, 2) := by decide +kernel
theorem dX5_init_9 : decode cX5_init 9 = .ok (.putfield 11, 3) := by decide +kernel
theorem dX5_init_12 : decode cX5_init 12 = .ok (.aload_n 0, 1) := by decide +kernel
theorem dX5_init_13 : decode cX5_init 13 = .ok (.bipush 12, 2) := by decide +kernel
theorem dX5_init_15 : decode cX5_init 15 = .ok (.newarray .int, 2) := by decide +kernel
theorem dX5_init_17 : decode cX5_init 17 = .ok (.putfield 15, 3) := by decide +kernel
theorem dX5_init_20 : decode cX5_init 20 = .ok (.aload_n 0, 1) := by decide +kernel
theorem dX5_init_21 : decode cX5_init 21 = .ok (.bipush 12, 2) := by decide +kernel
theorem dX5_init_23 : decode cX5_init 23 = .ok (.newarray .int, 2) := by decide +kernel
theorem dX5_init_25 : decode cX5_init 25 = .ok (.putfield 18, 3) := by decide +kernel
theorem dX5_init_28 : decode cX5_init 28 = .ok (.aload_n 0, 1) := by decide +kernel
theorem dX5_init_29 : decode cX5_init 29 = .ok (.bipush 12, 2) := by decide +kernel
theorem dX5_init_31 : decode cX5_init 31 = .ok (.newarray .int, 2) := by decide +kernel
theorem dX5_init_33 : decode cX5_init 33 = .ok (.putfield 21, 3) := by decide +kernel
theorem dX5_init_36 : decode cX5_init 36 = .ok (.aload_n 0, 1) := by decide +kernel
theorem dX5_init_37 : decode cX5_init 37 = .ok (.bipush 13, 2) := by decide +kernel
theorem dX5_init_39 : decode cX5_init 39 = .ok (.newarray .int, 2) := by decide +kernel
theorem dX5_init_41 : decode cX5_init 41 = .ok (.putfield 24, 3) := by decide +kernel
theorem dX5_init_44 : decode cX5_init 44 = .ok (.aload_n 0, 1) := by decide +kernel
theorem dX5_init_45 : decode cX5_init 45 = .ok (.sipush 400, 3) := by decide +kernel
theorem dX5_init_48 : decode cX5_init 48 = .ok (.newarray .int, 2) := by decide +kernel
theorem dX5_init_50 : decode cX5_init 50 = .ok (.putfield 29, 3) := by decide +kernel
theorem dX5_init_53 : decode cX5_init 53 = .ok (.aload_n 0, 1) := by decide +kernel
theorem dX5_init_54 : decode cX5_init 54 = .ok (.bipush 61, 2) := by decide +kernel
theorem dX5_init_56 : decode cX5_init 56 = .ok (.newarray .long, 2) := by decide +kernel
theorem dX5_init_58 : decode cX5_init 58 = .ok (.putfield 32, 3) := by decide +kernel
theorem dX5_init_61 : decode cX5_init 61 = .ok (.aload_n 0, 1) := by decide +kernel
theorem dX5_init_62 : decode cX5_init 62 = .ok (.bipush 7, 2) := by decide +kernel
theorem dX5_init_64 : decode cX5_init 64 = .ok (.newarray .int, 2) := by decide +kernel
theorem dX5_init_66 : decode cX5_init 66 = .ok (.putfield 36, 3) := by decide +kernel
theorem dX5_init_69 : decode cX5_init 69 = .ok (.return_, 1) := by decide +kernel
theorem dX5_clear_0 : decode cX5_clear 0 = .ok (.aload_n 0, 1) := by decide +kernel
theorem dX5_clear_1 : decode cX5_clear 1 = .ok (.iconst 0, 1) := by decide +kernel
theorem dX5_clear_2 : decode cX5_clear 2 = .ok (.putfield 39, 3) := by decide +kernel
theorem dX5_clear_5 : decode cX5_clear 5 = .ok (.aload_n 0, 1) := by decide +kernel
theorem dX5_clear_6 : decode cX5_clear 6 = .ok (.iconst 0, 1) := by decide +kernel
theorem dX5_clear_7 : decode cX5_clear 7 = .ok (.putfield 43, 3) := by decide +kernel
theorem dX5_clear_10 : decode cX5_clear 10 = .ok (.aload_n 0, 1) := by decide +kernel
theorem dX5_clear_11 : decode cX5_clear 11 = .ok (.iconst 0, 1) := by decide +kernel
theorem dX5_clear_12 : decode cX5_clear 12 = .ok (.putfield 46, 3) := by decide +kernel
theorem dX5_clear_15 : decode cX5_clear 15 = .ok (.return_, 1) := by decide +kernel
theorem dX5_emit_0 : decode cX5_emit 0 = .ok (.aload_n 0, 1) := by decide +kernel
theorem dX5_emit_1 : decode cX5_emit 1 = .ok (.getfield 46, 3) := by decide +kernel
theorem dX5_emit_4 : decode cX5_emit 4 = .ok (.aload_n 0, 1) := by decide +kernel
theorem dX5_emit_5 : decode cX5_emit 5 = .ok (.getfield 29, 3) := by decide +kernel
theorem dX5_emit_8 : decode cX5_emit 8 = .ok (.arraylength, 1) := by decide +kernel
theorem dX5_emit_9 : decode cX5_emit 9 = .ok (.if_icmp .ge 23, 3) := by decide +kernel
theorem dX5_emit_12 : decode cX5_emit 12 = .ok (.aload_n 0, 1) := by decide +kernel
theorem dX5_emit_13 : decode cX5_emit 13 = .ok (.getfield 29, 3) := by decide +kernel
theorem dX5_emit_16 : decode cX5_emit 16 = .ok (.aload_n 0, 1) := by decide +kernel
theorem dX5_emit_17 : decode cX5_emit 17 = .ok (.getfield 46, 3) := by decide +kernel
theorem dX5_emit_20 : decode cX5_emit 20 = .ok (.iload_n 1, 1) := by decide +kernel
theorem dX5_emit_21 : decode cX5_emit 21 = .ok (.iastore, 1) := by decide +kernel
theorem dX5_emit_22 : decode cX5_emit 22 = .ok (.aload_n 0, 1) := by decide +kernel
theorem dX5_emit_23 : decode cX5_emit 23 = .ok (.dup, 1) := by decide +kernel
theorem dX5_emit_24 : decode cX5_emit 24 = .ok (.getfield 46, 3) := by decide +kernel
theorem dX5_emit_27 : decode cX5_emit 27 = .ok (.iconst 1, 1) := by decide +kernel
theorem dX5_emit_28 : decode cX5_emit 28 = .ok (.iadd, 1) := by decide +kernel
theorem dX5_emit_29 : decode cX5_emit 29 = .ok (.putfield 46, 3) := by decide +kernel
theorem dX5_emit_32 : decode cX5_emit 32 = .ok (.return_, 1) := by decide +kernel
theorem dX5_addApart_0 : decode cX5_addApart 0 = .ok (.aload_n 0, 1) := by decide +kernel
theorem dX5_addApart_1 : decode cX5_addApart 1 = .ok (.getfield 39, 3) := by decide +kernel
theorem dX5_addApart_4 : decode cX5_addApart 4 = .ok (.bipush 12, 2) := by decide +kernel
theorem dX5_addApart_6 : decode cX5_addApart 6 = .ok (.if_icmp .ge 43, 3) := by decide +kernel
theorem dX5_addApart_9 : decode cX5_addApart 9 = .ok (.aload_n 0, 1) := by decide +kernel
theorem dX5_addApart_10 : decode cX5_addApart 10 = .ok (.getfield 11, 3) := by decide +kernel
theorem dX5_addApart_13 : decode cX5_addApart 13 = .ok (.aload_n 0, 1) := by decide +kernel
theorem dX5_addApart_14 : decode cX5_addApart 14 = .ok (.getfield 39, 3) := by decide +kernel
theorem dX5_addApart_17 : decode cX5_addApart 17 = .ok (.iload_n 1, 1) := by decide +kernel
theorem dX5_addApart_18 : decode cX5_addApart 18 = .ok (.iastore, 1) := by decide +kernel
theorem dX5_addApart_19 : decode cX5_addApart 19 = .ok (.aload_n 0, 1) := by decide +kernel
theorem dX5_addApart_20 : decode cX5_addApart 20 = .ok (.getfield 15, 3) := by decide +kernel
theorem dX5_addApart_23 : decode cX5_addApart 23 = .ok (.aload_n 0, 1) := by decide +kernel
theorem dX5_addApart_24 : decode cX5_addApart 24 = .ok (.getfield 39, 3) := by decide +kernel
theorem dX5_addApart_27 : decode cX5_addApart 27 = .ok (.iload_n 2, 1) := by decide +kernel
theorem dX5_addApart_28 : decode cX5_addApart 28 = .ok (.iastore, 1) := by decide +kernel
theorem dX5_addApart_29 : decode cX5_addApart 29 = .ok (.aload_n 0, 1) := by decide +kernel
theorem dX5_addApart_30 : decode cX5_addApart 30 = .ok (.getfield 18, 3) := by decide +kernel
theorem dX5_addApart_33 : decode cX5_addApart 33 = .ok (.aload_n 0, 1) := by decide +kernel
theorem dX5_addApart_34 : decode cX5_addApart 34 = .ok (.getfield 39, 3) := by decide +kernel
theorem dX5_addApart_37 : decode cX5_addApart 37 = .ok (.iload_n 3, 1) := by decide +kernel
theorem dX5_addApart_38 : decode cX5_addApart 38 = .ok (.iastore, 1) := by decide +kernel
theorem dX5_addApart_39 : decode cX5_addApart 39 = .ok (.aload_n 0, 1) := by decide +kernel
theorem dX5_addApart_40 : decode cX5_addApart 40 = .ok (.dup, 1) := by decide +kernel
theorem dX5_addApart_41 : decode cX5_addApart 41 = .ok (.getfield 39, 3) := by decide +kernel
theorem dX5_addApart_44 : decode cX5_addApart 44 = .ok (.iconst 1, 1) := by decide +kernel
theorem dX5_addApart_45 : decode cX5_addApart 45 = .ok (.iadd, 1) := by decide +kernel
theorem dX5_addApart_46 : decode cX5_addApart 46 = .ok (.putfield 39, 3) := by decide +kernel
theorem dX5_addApart_49 : decode cX5_addApart 49 = .ok (.return_, 1) := by decide +kernel
theorem dX5_beginBar_0 : decode cX5_beginBar 0 = .ok (.aload_n 0, 1) := by decide +kernel
theorem dX5_beginBar_1 : decode cX5_beginBar 1 = .ok (.getfield 43, 3) := by decide +kernel
theorem dX5_beginBar_4 : decode cX5_beginBar 4 = .ok (.bipush 12, 2) := by decide +kernel
theorem dX5_beginBar_6 : decode cX5_beginBar 6 = .ok (.if_icmp .ge 36, 3) := by decide +kernel
theorem dX5_beginBar_9 : decode cX5_beginBar 9 = .ok (.aload_n 0, 1) := by decide +kernel
theorem dX5_beginBar_10 : decode cX5_beginBar 10 = .ok (.getfield 21, 3) := by decide +kernel
theorem dX5_beginBar_13 : decode cX5_beginBar 13 = .ok (.aload_n 0, 1) := by decide +kernel
theorem dX5_beginBar_14 : decode cX5_beginBar 14 = .ok (.getfield 43, 3) := by decide +kernel
theorem dX5_beginBar_17 : decode cX5_beginBar 17 = .ok (.iload_n 1, 1) := by decide +kernel
theorem dX5_beginBar_18 : decode cX5_beginBar 18 = .ok (.iastore, 1) := by decide +kernel
theorem dX5_beginBar_19 : decode cX5_beginBar 19 = .ok (.aload_n 0, 1) := by decide +kernel
theorem dX5_beginBar_20 : decode cX5_beginBar 20 = .ok (.getfield 24, 3) := by decide +kernel
theorem dX5_beginBar_23 : decode cX5_beginBar 23 = .ok (.aload_n 0, 1) := by decide +kernel
theorem dX5_beginBar_24 : decode cX5_beginBar 24 = .ok (.getfield 43, 3) := by decide +kernel
theorem dX5_beginBar_27 : decode cX5_beginBar 27 = .ok (.aload_n 0, 1) := by decide +kernel
theorem dX5_beginBar_28 : decode cX5_beginBar 28 = .ok (.getfield 46, 3) := by decide +kernel
theorem dX5_beginBar_31 : decode cX5_beginBar 31 = .ok (.iastore, 1) := by decide +kernel
theorem dX5_beginBar_32 : decode cX5_beginBar 32 = .ok (.aload_n 0, 1) := by decide +kernel
theorem dX5_beginBar_33 : decode cX5_beginBar 33 = .ok (.dup, 1) := by decide +kernel
theorem dX5_beginBar_34 : decode cX5_beginBar 34 = .ok (.getfield 43, 3) := by decide +kernel
theorem dX5_beginBar_37 : decode cX5_beginBar 37 = .ok (.iconst 1, 1) := by decide +kernel
theorem dX5_beginBar_38 : decode cX5_beginBar 38 = .ok (.iadd, 1) := by decide +kernel
theorem dX5_beginBar_39 : decode cX5_beginBar 39 = .ok (.putfield 43, 3) := by decide +kernel
theorem dX5_beginBar_42 : decode cX5_beginBar 42 = .ok (.return_, 1) := by decide +kernel
theorem dX5_barSquares_0 : decode cX5_barSquares 0 = .ok (.aload_n 0, 1) := by decide +kernel
theorem dX5_barSquares_1 : decode cX5_barSquares 1 = .ok (.getfield 24, 3) := by decide +kernel
theorem dX5_barSquares_4 : decode cX5_barSquares 4 = .ok (.aload_n 0, 1) := by decide +kernel
theorem dX5_barSquares_5 : decode cX5_barSquares 5 = .ok (.getfield 43, 3) := by decide +kernel
theorem dX5_barSquares_8 : decode cX5_barSquares 8 = .ok (.aload_n 0, 1) := by decide +kernel
theorem dX5_barSquares_9 : decode cX5_barSquares 9 = .ok (.getfield 46, 3) := by decide +kernel
theorem dX5_barSquares_12 : decode cX5_barSquares 12 = .ok (.iastore, 1) := by decide +kernel
theorem dX5_barSquares_13 : decode cX5_barSquares 13 = .ok (.iconst 0, 1) := by decide +kernel
theorem dX5_barSquares_14 : decode cX5_barSquares 14 = .ok (.istore_n 3, 1) := by decide +kernel
theorem dX5_barSquares_15 : decode cX5_barSquares 15 = .ok (.iload_n 3, 1) := by decide +kernel
theorem dX5_barSquares_16 : decode cX5_barSquares 16 = .ok (.bipush 36, 2) := by decide +kernel
theorem dX5_barSquares_18 : decode cX5_barSquares 18 = .ok (.if_icmp .ge 84, 3) := by decide +kernel
theorem dX5_barSquares_21 : decode cX5_barSquares 21 = .ok (.aload_n 1, 1) := by decide +kernel
theorem dX5_barSquares_22 : decode cX5_barSquares 22 = .ok (.getfield 49, 3) := by decide +kernel
theorem dX5_barSquares_25 : decode cX5_barSquares 25 = .ok (.iload_n 3, 1) := by decide +kernel
theorem dX5_barSquares_26 : decode cX5_barSquares 26 = .ok (.lushr, 1) := by decide +kernel
theorem dX5_barSquares_27 : decode cX5_barSquares 27 = .ok (.lconst 1, 1) := by decide +kernel
theorem dX5_barSquares_28 : decode cX5_barSquares 28 = .ok (.land, 1) := by decide +kernel
theorem dX5_barSquares_29 : decode cX5_barSquares 29 = .ok (.lconst 0, 1) := by decide +kernel
theorem dX5_barSquares_30 : decode cX5_barSquares 30 = .ok (.lcmp, 1) := by decide +kernel
theorem dX5_barSquares_31 : decode cX5_barSquares 31 = .ok (.ifCond .eq 65, 3) := by decide +kernel
theorem dX5_barSquares_34 : decode cX5_barSquares 34 = .ok (.aload_n 0, 1) := by decide +kernel
theorem dX5_barSquares_35 : decode cX5_barSquares 35 = .ok (.aload_n 1, 1) := by decide +kernel
theorem dX5_barSquares_36 : decode cX5_barSquares 36 = .ok (.iload_n 3, 1) := by decide +kernel
theorem dX5_barSquares_37 : decode cX5_barSquares 37 = .ok (.invokevirtual 55, 3) := by decide +kernel
theorem dX5_barSquares_40 : decode cX5_barSquares 40 = .ok (.iconst 0, 1) := by decide +kernel
theorem dX5_barSquares_41 : decode cX5_barSquares 41 = .ok (.istore 4, 2) := by decide +kernel
theorem dX5_barSquares_43 : decode cX5_barSquares 43 = .ok (.iload 4, 2) := by decide +kernel
theorem dX5_barSquares_45 : decode cX5_barSquares 45 = .ok (.aload_n 0, 1) := by decide +kernel
theorem dX5_barSquares_46 : decode cX5_barSquares 46 = .ok (.getfield 43, 3) := by decide +kernel
theorem dX5_barSquares_49 : decode cX5_barSquares 49 = .ok (.if_icmp .ge 47, 3) := by decide +kernel
theorem dX5_barSquares_52 : decode cX5_barSquares 52 = .ok (.aload_n 0, 1) := by decide +kernel
theorem dX5_barSquares_53 : decode cX5_barSquares 53 = .ok (.aload_n 0, 1) := by decide +kernel
theorem dX5_barSquares_54 : decode cX5_barSquares 54 = .ok (.getfield 24, 3) := by decide +kernel
theorem dX5_barSquares_57 : decode cX5_barSquares 57 = .ok (.iload 4, 2) := by decide +kernel
theorem dX5_barSquares_59 : decode cX5_barSquares 59 = .ok (.iaload, 1) := by decide +kernel
theorem dX5_barSquares_60 : decode cX5_barSquares 60 = .ok (.aload_n 0, 1) := by decide +kernel
theorem dX5_barSquares_61 : decode cX5_barSquares 61 = .ok (.getfield 24, 3) := by decide +kernel
theorem dX5_barSquares_64 : decode cX5_barSquares 64 = .ok (.iload 4, 2) := by decide +kernel
theorem dX5_barSquares_66 : decode cX5_barSquares 66 = .ok (.iconst 1, 1) := by decide +kernel
theorem dX5_barSquares_67 : decode cX5_barSquares 67 = .ok (.iadd, 1) := by decide +kernel
theorem dX5_barSquares_68 : decode cX5_barSquares 68 = .ok (.iaload, 1) := by decide +kernel
theorem dX5_barSquares_69 : decode cX5_barSquares 69 = .ok (.invokevirtual 59, 3) := by decide +kernel
theorem dX5_barSquares_72 : decode cX5_barSquares 72 = .ok (.ifCond .eq 18, 3) := by decide +kernel
theorem dX5_barSquares_75 : decode cX5_barSquares 75 = .ok (.aload_n 2, 1) := by decide +kernel
theorem dX5_barSquares_76 : decode cX5_barSquares 76 = .ok (.aload_n 0, 1) := by decide +kernel
theorem dX5_barSquares_77 : decode cX5_barSquares 77 = .ok (.getfield 21, 3) := by decide +kernel
theorem dX5_barSquares_80 : decode cX5_barSquares 80 = .ok (.iload 4, 2) := by decide +kernel
theorem dX5_barSquares_82 : decode cX5_barSquares 82 = .ok (.iaload, 1) := by decide +kernel
theorem dX5_barSquares_83 : decode cX5_barSquares 83 = .ok (.dup2, 1) := by decide +kernel
theorem dX5_barSquares_84 : decode cX5_barSquares 84 = .ok (.laload, 1) := by decide +kernel
theorem dX5_barSquares_85 : decode cX5_barSquares 85 = .ok (.lconst 1, 1) := by decide +kernel
theorem dX5_barSquares_86 : decode cX5_barSquares 86 = .ok (.iload_n 3, 1) := by decide +kernel
theorem dX5_barSquares_87 : decode cX5_barSquares 87 = .ok (.lshl, 1) := by decide +kernel
theorem dX5_barSquares_88 : decode cX5_barSquares 88 = .ok (.lor, 1) := by decide +kernel
theorem dX5_barSquares_89 : decode cX5_barSquares 89 = .ok (.lastore, 1) := by decide +kernel
theorem dX5_barSquares_90 : decode cX5_barSquares 90 = .ok (.iinc 4 1, 3) := by decide +kernel
theorem dX5_barSquares_93 : decode cX5_barSquares 93 = .ok (.goto (-50), 3) := by decide +kernel
theorem dX5_barSquares_96 : decode cX5_barSquares 96 = .ok (.iinc 3 1, 3) := by decide +kernel
theorem dX5_barSquares_99 : decode cX5_barSquares 99 = .ok (.goto (-84), 3) := by decide +kernel
theorem dX5_barSquares_102 : decode cX5_barSquares 102 = .ok (.return_, 1) := by decide +kernel
theorem dX5_learn_0 : decode cX5_learn 0 = .ok (.aload_n 0, 1) := by decide +kernel
theorem dX5_learn_1 : decode cX5_learn 1 = .ok (.getfield 36, 3) := by decide +kernel
theorem dX5_learn_4 : decode cX5_learn 4 = .ok (.iconst 0, 1) := by decide +kernel
theorem dX5_learn_5 : decode cX5_learn 5 = .ok (.iload_n 2, 1) := by decide +kernel
theorem dX5_learn_6 : decode cX5_learn 6 = .ok (.bipush 6, 2) := by decide +kernel
theorem dX5_learn_8 : decode cX5_learn 8 = .ok (.irem, 1) := by decide +kernel
theorem dX5_learn_9 : decode cX5_learn 9 = .ok (.iastore, 1) := by decide +kernel
theorem dX5_learn_10 : decode cX5_learn 10 = .ok (.aload_n 0, 1) := by decide +kernel
theorem dX5_learn_11 : decode cX5_learn 11 = .ok (.getfield 36, 3) := by decide +kernel
theorem dX5_learn_14 : decode cX5_learn 14 = .ok (.iconst 1, 1) := by decide +kernel
theorem dX5_learn_15 : decode cX5_learn 15 = .ok (.iload_n 2, 1) := by decide +kernel
theorem dX5_learn_16 : decode cX5_learn 16 = .ok (.bipush 6, 2) := by decide +kernel
theorem dX5_learn_18 : decode cX5_learn 18 = .ok (.idiv, 1) := by decide +kernel
theorem dX5_learn_19 : decode cX5_learn 19 = .ok (.iastore, 1) := by decide +kernel
theorem dX5_learn_20 : decode cX5_learn 20 = .ok (.aload_n 0, 1) := by decide +kernel
theorem dX5_learn_21 : decode cX5_learn 21 = .ok (.getfield 36, 3) := by decide +kernel
theorem dX5_learn_24 : decode cX5_learn 24 = .ok (.iconst 2, 1) := by decide +kernel
theorem dX5_learn_25 : decode cX5_learn 25 = .ok (.aload_n 1, 1) := by decide +kernel
theorem dX5_learn_26 : decode cX5_learn 26 = .ok (.iload_n 2, 1) := by decide +kernel
theorem dX5_learn_27 : decode cX5_learn 27 = .ok (.invokevirtual 63, 3) := by decide +kernel
theorem dX5_learn_30 : decode cX5_learn 30 = .ok (.iastore, 1) := by decide +kernel
theorem dX5_learn_31 : decode cX5_learn 31 = .ok (.aload_n 0, 1) := by decide +kernel
theorem dX5_learn_32 : decode cX5_learn 32 = .ok (.getfield 36, 3) := by decide +kernel
theorem dX5_learn_35 : decode cX5_learn 35 = .ok (.iconst 3, 1) := by decide +kernel
theorem dX5_learn_36 : decode cX5_learn 36 = .ok (.aload_n 1, 1) := by decide +kernel
theorem dX5_learn_37 : decode cX5_learn 37 = .ok (.iload_n 2, 1) := by decide +kernel
theorem dX5_learn_38 : decode cX5_learn 38 = .ok (.invokevirtual 67, 3) := by decide +kernel
theorem dX5_learn_41 : decode cX5_learn 41 = .ok (.iastore, 1) := by decide +kernel
theorem dX5_learn_42 : decode cX5_learn 42 = .ok (.aload_n 0, 1) := by decide +kernel
theorem dX5_learn_43 : decode cX5_learn 43 = .ok (.getfield 36, 3) := by decide +kernel
theorem dX5_learn_46 : decode cX5_learn 46 = .ok (.iconst 4, 1) := by decide +kernel
theorem dX5_learn_47 : decode cX5_learn 47 = .ok (.aload_n 1, 1) := by decide +kernel
theorem dX5_learn_48 : decode cX5_learn 48 = .ok (.iload_n 2, 1) := by decide +kernel
theorem dX5_learn_49 : decode cX5_learn 49 = .ok (.invokevirtual 70, 3) := by decide +kernel
theorem dX5_learn_52 : decode cX5_learn 52 = .ok (.iconst (-1), 1) := by decide +kernel
theorem dX5_learn_53 : decode cX5_learn 53 = .ok (.if_icmp .ne 7, 3) := by decide +kernel
theorem dX5_learn_56 : decode cX5_learn 56 = .ok (.iconst 0, 1) := by decide +kernel
theorem dX5_learn_57 : decode cX5_learn 57 = .ok (.goto 4, 3) := by decide +kernel
theorem dX5_learn_60 : decode cX5_learn 60 = .ok (.iconst 1, 1) := by decide +kernel
theorem dX5_learn_61 : decode cX5_learn 61 = .ok (.iastore, 1) := by decide +kernel
theorem dX5_learn_62 : decode cX5_learn 62 = .ok (.aload_n 0, 1) := by decide +kernel
theorem dX5_learn_63 : decode cX5_learn 63 = .ok (.getfield 36, 3) := by decide +kernel
theorem dX5_learn_66 : decode cX5_learn 66 = .ok (.iconst 5, 1) := by decide +kernel
theorem dX5_learn_67 : decode cX5_learn 67 = .ok (.aload_n 1, 1) := by decide +kernel
theorem dX5_learn_68 : decode cX5_learn 68 = .ok (.iload_n 2, 1) := by decide +kernel
theorem dX5_learn_69 : decode cX5_learn 69 = .ok (.invokevirtual 73, 3) := by decide +kernel
theorem dX5_learn_72 : decode cX5_learn 72 = .ok (.iastore, 1) := by decide +kernel
theorem dX5_learn_73 : decode cX5_learn 73 = .ok (.aload_n 0, 1) := by decide +kernel
theorem dX5_learn_74 : decode cX5_learn 74 = .ok (.getfield 36, 3) := by decide +kernel
theorem dX5_learn_77 : decode cX5_learn 77 = .ok (.bipush 6, 2) := by decide +kernel
theorem dX5_learn_79 : decode cX5_learn 79 = .ok (.aload_n 1, 1) := by decide +kernel
theorem dX5_learn_80 : decode cX5_learn 80 = .ok (.iload_n 2, 1) := by decide +kernel
theorem dX5_learn_81 : decode cX5_learn 81 = .ok (.invokevirtual 76, 3) := by decide +kernel
theorem dX5_learn_84 : decode cX5_learn 84 = .ok (.iastore, 1) := by decide +kernel
theorem dX5_learn_85 : decode cX5_learn 85 = .ok (.return_, 1) := by decide +kernel
theorem dX5_isTrue_0 : decode cX5_isTrue 0 = .ok (.iconst 0, 1) := by decide +kernel
theorem dX5_isTrue_1 : decode cX5_isTrue 1 = .ok (.istore_n 3, 1) := by decide +kernel
theorem dX5_isTrue_2 : decode cX5_isTrue 2 = .ok (.iload_n 1, 1) := by decide +kernel
theorem dX5_isTrue_3 : decode cX5_isTrue 3 = .ok (.istore 4, 2) := by decide +kernel
theorem dX5_isTrue_5 : decode cX5_isTrue 5 = .ok (.iload 4, 2) := by decide +kernel
theorem dX5_isTrue_7 : decode cX5_isTrue 7 = .ok (.iload_n 2, 1) := by decide +kernel
theorem dX5_isTrue_8 : decode cX5_isTrue 8 = .ok (.if_icmp .ge 134, 3) := by decide +kernel
theorem dX5_isTrue_11 : decode cX5_isTrue 11 = .ok (.aload_n 0, 1) := by decide +kernel
theorem dX5_isTrue_12 : decode cX5_isTrue 12 = .ok (.getfield 29, 3) := by decide +kernel
theorem dX5_isTrue_15 : decode cX5_isTrue 15 = .ok (.iload 4, 2) := by decide +kernel
theorem dX5_isTrue_17 : decode cX5_isTrue 17 = .ok (.iaload, 1) := by decide +kernel
theorem dX5_isTrue_18 : decode cX5_isTrue 18 = .ok (.istore 5, 2) := by decide +kernel
theorem dX5_isTrue_20 : decode cX5_isTrue 20 = .ok (.iload 5, 2) := by decide +kernel
theorem dX5_isTrue_22 : decode cX5_isTrue 22 = .ok (.bipush (-7), 2) := by decide +kernel
theorem dX5_isTrue_24 : decode cX5_isTrue 24 = .ok (.if_icmp .lt 45, 3) := by decide +kernel
theorem dX5_isTrue_27 : decode cX5_isTrue 27 = .ok (.iload_n 3, 1) := by decide +kernel
theorem dX5_isTrue_28 : decode cX5_isTrue 28 = .ok (.aload_n 0, 1) := by decide +kernel
theorem dX5_isTrue_29 : decode cX5_isTrue 29 = .ok (.getfield 32, 3) := by decide +kernel
theorem dX5_isTrue_32 : decode cX5_isTrue 32 = .ok (.arraylength, 1) := by decide +kernel
theorem dX5_isTrue_33 : decode cX5_isTrue 33 = .ok (.if_icmp .ge 103, 3) := by decide +kernel
theorem dX5_isTrue_36 : decode cX5_isTrue 36 = .ok (.aload_n 0, 1) := by decide +kernel
theorem dX5_isTrue_37 : decode cX5_isTrue 37 = .ok (.getfield 32, 3) := by decide +kernel
theorem dX5_isTrue_40 : decode cX5_isTrue 40 = .ok (.iload_n 3, 1) := by decide +kernel
theorem dX5_isTrue_41 : decode cX5_isTrue 41 = .ok (.iload 5, 2) := by decide +kernel
theorem dX5_isTrue_43 : decode cX5_isTrue 43 = .ok (.ifCond .lt 9, 3) := by decide +kernel
theorem dX5_isTrue_46 : decode cX5_isTrue 46 = .ok (.iload 5, 2) := by decide +kernel
theorem dX5_isTrue_48 : decode cX5_isTrue 48 = .ok (.i2l, 1) := by decide +kernel
theorem dX5_isTrue_49 : decode cX5_isTrue 49 = .ok (.goto 13, 3) := by decide +kernel
theorem dX5_isTrue_52 : decode cX5_isTrue 52 = .ok (.aload_n 0, 1) := by decide +kernel
theorem dX5_isTrue_53 : decode cX5_isTrue 53 = .ok (.getfield 36, 3) := by decide +kernel
theorem dX5_isTrue_56 : decode cX5_isTrue 56 = .ok (.iconst (-1), 1) := by decide +kernel
theorem dX5_isTrue_57 : decode cX5_isTrue 57 = .ok (.iload 5, 2) := by decide +kernel
theorem dX5_isTrue_59 : decode cX5_isTrue 59 = .ok (.isub, 1) := by decide +kernel
theorem dX5_isTrue_60 : decode cX5_isTrue 60 = .ok (.iaload, 1) := by decide +kernel
theorem dX5_isTrue_61 : decode cX5_isTrue 61 = .ok (.i2l, 1) := by decide +kernel
theorem dX5_isTrue_62 : decode cX5_isTrue 62 = .ok (.lastore, 1) := by decide +kernel
theorem dX5_isTrue_63 : decode cX5_isTrue 63 = .ok (.iinc 3 1, 3) := by decide +kernel
theorem dX5_isTrue_66 : decode cX5_isTrue 66 = .ok (.goto 70, 3) := by decide +kernel
theorem dX5_isTrue_69 : decode cX5_isTrue 69 = .ok (.iload 5, 2) := by decide +kernel
theorem dX5_isTrue_71 : decode cX5_isTrue 71 = .ok (.bipush (-22), 2) := by decide +kernel
theorem dX5_isTrue_73 : decode cX5_isTrue 73 = .ok (.if_icmp .ne 28, 3) := by decide +kernel
theorem dX5_isTrue_76 : decode cX5_isTrue 76 = .ok (.iload_n 3, 1) := by decide +kernel
theorem dX5_isTrue_77 : decode cX5_isTrue 77 = .ok (.ifCond .le 59, 3) := by decide +kernel
theorem dX5_isTrue_80 : decode cX5_isTrue 80 = .ok (.aload_n 0, 1) := by decide +kernel
theorem dX5_isTrue_81 : decode cX5_isTrue 81 = .ok (.getfield 32, 3) := by decide +kernel
theorem dX5_isTrue_84 : decode cX5_isTrue 84 = .ok (.iload_n 3, 1) := by decide +kernel
theorem dX5_isTrue_85 : decode cX5_isTrue 85 = .ok (.iconst 1, 1) := by decide +kernel
theorem dX5_isTrue_86 : decode cX5_isTrue 86 = .ok (.isub, 1) := by decide +kernel
theorem dX5_isTrue_87 : decode cX5_isTrue 87 = .ok (.lconst 1, 1) := by decide +kernel
theorem dX5_isTrue_88 : decode cX5_isTrue 88 = .ok (.aload_n 0, 1) := by decide +kernel
theorem dX5_isTrue_89 : decode cX5_isTrue 89 = .ok (.getfield 32, 3) := by decide +kernel
theorem dX5_isTrue_92 : decode cX5_isTrue 92 = .ok (.iload_n 3, 1) := by decide +kernel
theorem dX5_isTrue_93 : decode cX5_isTrue 93 = .ok (.iconst 1, 1) := by decide +kernel
theorem dX5_isTrue_94 : decode cX5_isTrue 94 = .ok (.isub, 1) := by decide +kernel
theorem dX5_isTrue_95 : decode cX5_isTrue 95 = .ok (.laload, 1) := by decide +kernel
theorem dX5_isTrue_96 : decode cX5_isTrue 96 = .ok (.lsub, 1) := by decide +kernel
theorem dX5_isTrue_97 : decode cX5_isTrue 97 = .ok (.lastore, 1) := by decide +kernel
theorem dX5_isTrue_98 : decode cX5_isTrue 98 = .ok (.goto 38, 3) := by decide +kernel
theorem dX5_isTrue_101 : decode cX5_isTrue 101 = .ok (.iload_n 3, 1) := by decide +kernel
theorem dX5_isTrue_102 : decode cX5_isTrue 102 = .ok (.iconst 1, 1) := by decide +kernel
theorem dX5_isTrue_103 : decode cX5_isTrue 103 = .ok (.if_icmp .le 33, 3) := by decide +kernel
theorem dX5_isTrue_106 : decode cX5_isTrue 106 = .ok (.iinc 3 (-1), 3) := by decide +kernel
theorem dX5_isTrue_109 : decode cX5_isTrue 109 = .ok (.aload_n 0, 1) := by decide +kernel
theorem dX5_isTrue_110 : decode cX5_isTrue 110 = .ok (.getfield 32, 3) := by decide +kernel
theorem dX5_isTrue_113 : decode cX5_isTrue 113 = .ok (.iload_n 3, 1) := by decide +kernel
theorem dX5_isTrue_114 : decode cX5_isTrue 114 = .ok (.iconst 1, 1) := by decide +kernel
theorem dX5_isTrue_115 : decode cX5_isTrue 115 = .ok (.isub, 1) := by decide +kernel
theorem dX5_isTrue_116 : decode cX5_isTrue 116 = .ok (.iload 5, 2) := by decide +kernel
theorem dX5_isTrue_118 : decode cX5_isTrue 118 = .ok (.aload_n 0, 1) := by decide +kernel
theorem dX5_isTrue_119 : decode cX5_isTrue 119 = .ok (.getfield 32, 3) := by decide +kernel
theorem dX5_isTrue_122 : decode cX5_isTrue 122 = .ok (.iload_n 3, 1) := by decide +kernel
theorem dX5_isTrue_123 : decode cX5_isTrue 123 = .ok (.iconst 1, 1) := by decide +kernel
theorem dX5_isTrue_124 : decode cX5_isTrue 124 = .ok (.isub, 1) := by decide +kernel
theorem dX5_isTrue_125 : decode cX5_isTrue 125 = .ok (.laload, 1) := by decide +kernel
theorem dX5_isTrue_126 : decode cX5_isTrue 126 = .ok (.aload_n 0, 1) := by decide +kernel
theorem dX5_isTrue_127 : decode cX5_isTrue 127 = .ok (.getfield 32, 3) := by decide +kernel
theorem dX5_isTrue_130 : decode cX5_isTrue 130 = .ok (.iload_n 3, 1) := by decide +kernel
theorem dX5_isTrue_131 : decode cX5_isTrue 131 = .ok (.laload, 1) := by decide +kernel
theorem dX5_isTrue_132 : decode cX5_isTrue 132 = .ok (.invokestatic 79, 3) := by decide +kernel
theorem dX5_isTrue_135 : decode cX5_isTrue 135 = .ok (.lastore, 1) := by decide +kernel
theorem dX5_isTrue_136 : decode cX5_isTrue 136 = .ok (.iinc 4 1, 3) := by decide +kernel
theorem dX5_isTrue_139 : decode cX5_isTrue 139 = .ok (.goto (-134), 3) := by decide +kernel
theorem dX5_isTrue_142 : decode cX5_isTrue 142 = .ok (.iload_n 3, 1) := by decide +kernel
theorem dX5_isTrue_143 : decode cX5_isTrue 143 = .ok (.ifCond .le 18, 3) := by decide +kernel
theorem dX5_isTrue_146 : decode cX5_isTrue 146 = .ok (.aload_n 0, 1) := by decide +kernel
theorem dX5_isTrue_147 : decode cX5_isTrue 147 = .ok (.getfield 32, 3) := by decide +kernel
theorem dX5_isTrue_150 : decode cX5_isTrue 150 = .ok (.iconst 0, 1) := by decide +kernel
theorem dX5_isTrue_151 : decode cX5_isTrue 151 = .ok (.laload, 1) := by decide +kernel
theorem dX5_isTrue_152 : decode cX5_isTrue 152 = .ok (.lconst 0, 1) := by decide +kernel
theorem dX5_isTrue_153 : decode cX5_isTrue 153 = .ok (.lcmp, 1) := by decide +kernel
theorem dX5_isTrue_154 : decode cX5_isTrue 154 = .ok (.ifCond .eq 7, 3) := by decide +kernel
theorem dX5_isTrue_157 : decode cX5_isTrue 157 = .ok (.iconst 1, 1) := by decide +kernel
theorem dX5_isTrue_158 : decode cX5_isTrue 158 = .ok (.goto 4, 3) := by decide +kernel
theorem dX5_isTrue_161 : decode cX5_isTrue 161 = .ok (.iconst 0, 1) := by decide +kernel
theorem dX5_isTrue_162 : decode cX5_isTrue 162 = .ok (.ireturn, 1) := by decide +kernel
theorem dX5_join_0 : decode cX5_join 0 = .ok (.iload_n 0, 1) := by decide +kernel
theorem dX5_join_1 : decode cX5_join 1 = .ok (.tableswitch 93 (-21) (-11) #[89, 85, 93, 93, 93, 93, 93, 71, 67, 63, 59], 59) := by decide +kernel
theorem dX5_join_60 : decode cX5_join 60 = .ok (.lload_n 1, 1) := by decide +kernel
theorem dX5_join_61 : decode cX5_join 61 = .ok (.lload_n 3, 1) := by decide +kernel
theorem dX5_join_62 : decode cX5_join 62 = .ok (.ladd, 1) := by decide +kernel
theorem dX5_join_63 : decode cX5_join 63 = .ok (.lreturn, 1) := by decide +kernel
theorem dX5_join_64 : decode cX5_join 64 = .ok (.lload_n 1, 1) := by decide +kernel
theorem dX5_join_65 : decode cX5_join 65 = .ok (.lload_n 3, 1) := by decide +kernel
theorem dX5_join_66 : decode cX5_join 66 = .ok (.lsub, 1) := by decide +kernel
theorem dX5_join_67 : decode cX5_join 67 = .ok (.lreturn, 1) := by decide +kernel
theorem dX5_join_68 : decode cX5_join 68 = .ok (.lload_n 1, 1) := by decide +kernel
theorem dX5_join_69 : decode cX5_join 69 = .ok (.lload_n 3, 1) := by decide +kernel
theorem dX5_join_70 : decode cX5_join 70 = .ok (.lmul, 1) := by decide +kernel
theorem dX5_join_71 : decode cX5_join 71 = .ok (.lreturn, 1) := by decide +kernel
theorem dX5_join_72 : decode cX5_join 72 = .ok (.lload_n 3, 1) := by decide +kernel
theorem dX5_join_73 : decode cX5_join 73 = .ok (.lconst 0, 1) := by decide +kernel
theorem dX5_join_74 : decode cX5_join 74 = .ok (.lcmp, 1) := by decide +kernel
theorem dX5_join_75 : decode cX5_join 75 = .ok (.ifCond .ne 7, 3) := by decide +kernel
theorem dX5_join_78 : decode cX5_join 78 = .ok (.lconst 0, 1) := by decide +kernel
theorem dX5_join_79 : decode cX5_join 79 = .ok (.goto 6, 3) := by decide +kernel
theorem dX5_join_82 : decode cX5_join 82 = .ok (.lload_n 1, 1) := by decide +kernel
theorem dX5_join_83 : decode cX5_join 83 = .ok (.lload_n 3, 1) := by decide +kernel
theorem dX5_join_84 : decode cX5_join 84 = .ok (.ldiv, 1) := by decide +kernel
theorem dX5_join_85 : decode cX5_join 85 = .ok (.lreturn, 1) := by decide +kernel
theorem dX5_join_86 : decode cX5_join 86 = .ok (.lload_n 1, 1) := by decide +kernel
theorem dX5_join_87 : decode cX5_join 87 = .ok (.lload_n 3, 1) := by decide +kernel
theorem dX5_join_88 : decode cX5_join 88 = .ok (.land, 1) := by decide +kernel
theorem dX5_join_89 : decode cX5_join 89 = .ok (.lreturn, 1) := by decide +kernel
theorem dX5_join_90 : decode cX5_join 90 = .ok (.lload_n 1, 1) := by decide +kernel
theorem dX5_join_91 : decode cX5_join 91 = .ok (.lload_n 3, 1) := by decide +kernel
theorem dX5_join_92 : decode cX5_join 92 = .ok (.lor, 1) := by decide +kernel
theorem dX5_join_93 : decode cX5_join 93 = .ok (.lreturn, 1) := by decide +kernel
theorem dX5_join_94 : decode cX5_join 94 = .ok (.iload_n 0, 1) := by decide +kernel
theorem dX5_join_95 : decode cX5_join 95 = .ok (.lload_n 1, 1) := by decide +kernel
theorem dX5_join_96 : decode cX5_join 96 = .ok (.lload_n 3, 1) := by decide +kernel
theorem dX5_join_97 : decode cX5_join 97 = .ok (.invokestatic 83, 3) := by decide +kernel
theorem dX5_join_100 : decode cX5_join 100 = .ok (.ifCond .eq 7, 3) := by decide +kernel
theorem dX5_join_103 : decode cX5_join 103 = .ok (.lconst 1, 1) := by decide +kernel
theorem dX5_join_104 : decode cX5_join 104 = .ok (.goto 4, 3) := by decide +kernel
theorem dX5_join_107 : decode cX5_join 107 = .ok (.lconst 0, 1) := by decide +kernel
theorem dX5_join_108 : decode cX5_join 108 = .ok (.lreturn, 1) := by decide +kernel
theorem dX5_compare_0 : decode cX5_compare 0 = .ok (.iload_n 0, 1) := by decide +kernel
theorem dX5_compare_1 : decode cX5_compare 1 = .ok (.tableswitch 79 (-18) (-15) #[67, 55, 43, 31], 31) := by decide +kernel
theorem dX5_compare_32 : decode cX5_compare 32 = .ok (.lload_n 1, 1) := by decide +kernel
theorem dX5_compare_33 : decode cX5_compare 33 = .ok (.lload_n 3, 1) := by decide +kernel
theorem dX5_compare_34 : decode cX5_compare 34 = .ok (.lcmp, 1) := by decide +kernel
theorem dX5_compare_35 : decode cX5_compare 35 = .ok (.ifCond .ge 7, 3) := by decide +kernel
theorem dX5_compare_38 : decode cX5_compare 38 = .ok (.iconst 1, 1) := by decide +kernel
theorem dX5_compare_39 : decode cX5_compare 39 = .ok (.goto 4, 3) := by decide +kernel
theorem dX5_compare_42 : decode cX5_compare 42 = .ok (.iconst 0, 1) := by decide +kernel
theorem dX5_compare_43 : decode cX5_compare 43 = .ok (.ireturn, 1) := by decide +kernel
theorem dX5_compare_44 : decode cX5_compare 44 = .ok (.lload_n 1, 1) := by decide +kernel
theorem dX5_compare_45 : decode cX5_compare 45 = .ok (.lload_n 3, 1) := by decide +kernel
theorem dX5_compare_46 : decode cX5_compare 46 = .ok (.lcmp, 1) := by decide +kernel
theorem dX5_compare_47 : decode cX5_compare 47 = .ok (.ifCond .gt 7, 3) := by decide +kernel
theorem dX5_compare_50 : decode cX5_compare 50 = .ok (.iconst 1, 1) := by decide +kernel
theorem dX5_compare_51 : decode cX5_compare 51 = .ok (.goto 4, 3) := by decide +kernel
theorem dX5_compare_54 : decode cX5_compare 54 = .ok (.iconst 0, 1) := by decide +kernel
theorem dX5_compare_55 : decode cX5_compare 55 = .ok (.ireturn, 1) := by decide +kernel
theorem dX5_compare_56 : decode cX5_compare 56 = .ok (.lload_n 1, 1) := by decide +kernel
theorem dX5_compare_57 : decode cX5_compare 57 = .ok (.lload_n 3, 1) := by decide +kernel
theorem dX5_compare_58 : decode cX5_compare 58 = .ok (.lcmp, 1) := by decide +kernel
theorem dX5_compare_59 : decode cX5_compare 59 = .ok (.ifCond .ne 7, 3) := by decide +kernel
theorem dX5_compare_62 : decode cX5_compare 62 = .ok (.iconst 1, 1) := by decide +kernel
theorem dX5_compare_63 : decode cX5_compare 63 = .ok (.goto 4, 3) := by decide +kernel
theorem dX5_compare_66 : decode cX5_compare 66 = .ok (.iconst 0, 1) := by decide +kernel
theorem dX5_compare_67 : decode cX5_compare 67 = .ok (.ireturn, 1) := by decide +kernel
theorem dX5_compare_68 : decode cX5_compare 68 = .ok (.lload_n 1, 1) := by decide +kernel
theorem dX5_compare_69 : decode cX5_compare 69 = .ok (.lload_n 3, 1) := by decide +kernel
theorem dX5_compare_70 : decode cX5_compare 70 = .ok (.lcmp, 1) := by decide +kernel
theorem dX5_compare_71 : decode cX5_compare 71 = .ok (.ifCond .lt 7, 3) := by decide +kernel
theorem dX5_compare_74 : decode cX5_compare 74 = .ok (.iconst 1, 1) := by decide +kernel
theorem dX5_compare_75 : decode cX5_compare 75 = .ok (.goto 4, 3) := by decide +kernel
theorem dX5_compare_78 : decode cX5_compare 78 = .ok (.iconst 0, 1) := by decide +kernel
theorem dX5_compare_79 : decode cX5_compare 79 = .ok (.ireturn, 1) := by decide +kernel
theorem dX5_compare_80 : decode cX5_compare 80 = .ok (.lload_n 1, 1) := by decide +kernel
theorem dX5_compare_81 : decode cX5_compare 81 = .ok (.lload_n 3, 1) := by decide +kernel
theorem dX5_compare_82 : decode cX5_compare 82 = .ok (.lcmp, 1) := by decide +kernel
theorem dX5_compare_83 : decode cX5_compare 83 = .ok (.ifCond .le 7, 3) := by decide +kernel
theorem dX5_compare_86 : decode cX5_compare 86 = .ok (.iconst 1, 1) := by decide +kernel
theorem dX5_compare_87 : decode cX5_compare 87 = .ok (.goto 4, 3) := by decide +kernel
theorem dX5_compare_90 : decode cX5_compare 90 = .ok (.iconst 0, 1) := by decide +kernel
theorem dX5_compare_91 : decode cX5_compare 91 = .ok (.ireturn, 1) := by decide +kernel
theorem dX6_init_0 : decode cX6_init 0 = .ok (.aload_n 0, 1) := by decide +kernel
theorem dX6_init_1 : decode cX6_init 1 = .ok (.invokespecial 3, 3) := by decide +kernel
theorem dX6_init_4 : decode cX6_init 4 = .ok (.aload_n 0, 1) := by decide +kernel
theorem dX6_init_5 : decode cX6_init 5 = .ok (.aload_n 1, 1) := by decide +kernel
theorem dX6_init_6 : decode cX6_init 6 = .ok (.putfield 9, 3) := by decide +kernel
theorem dX6_init_9 : decode cX6_init 9 = .ok (.return_, 1) := by decide +kernel
theorem dX6_read_0 : decode cX6_read 0 = .ok (.aload_n 0, 1) := by decide +kernel
theorem dX6_read_1 : decode cX6_read 1 = .ok (.aload_n 1, 1) := by decide +kernel
theorem dX6_read_2 : decode cX6_read 2 = .ok (.putfield 15, 3) := by decide +kernel
theorem dX6_read_5 : decode cX6_read 5 = .ok (.aload_n 0, 1) := by decide +kernel
theorem dX6_read_6 : decode cX6_read 6 = .ok (.getfield 15, 3) := by decide +kernel
theorem dX6_read_9 : decode cX6_read 9 = .ok (.invokevirtual 19, 3) := by decide +kernel
theorem dX6_read_12 : decode cX6_read 12 = .ok (.aload_n 0, 1) := by decide +kernel
theorem dX6_read_13 : decode cX6_read 13 = .ok (.iconst 0, 1) := by decide +kernel
theorem dX6_read_14 : decode cX6_read 14 = .ok (.putfield 24, 3) := by decide +kernel
theorem dX6_read_17 : decode cX6_read 17 = .ok (.aload_n 0, 1) := by decide +kernel
theorem dX6_read_18 : decode cX6_read 18 = .ok (.getfield 9, 3) := by decide +kernel
theorem dX6_read_21 : decode cX6_read 21 = .ok (.invokevirtual 28, 3) := by decide +kernel
theorem dX6_read_24 : decode cX6_read 24 = .ok (.iconst 0, 1) := by decide +kernel
theorem dX6_read_25 : decode cX6_read 25 = .ok (.istore_n 2, 1) := by decide +kernel
theorem dX6_read_26 : decode cX6_read 26 = .ok (.iload_n 2, 1) := by decide +kernel
theorem dX6_read_27 : decode cX6_read 27 = .ok (.bipush 12, 2) := by decide +kernel
theorem dX6_read_29 : decode cX6_read 29 = .ok (.if_icmp .gt 156, 3) := by decide +kernel
theorem dX6_read_32 : decode cX6_read 32 = .ok (.aload_n 0, 1) := by decide +kernel
theorem dX6_read_33 : decode cX6_read 33 = .ok (.getfield 9, 3) := by decide +kernel
theorem dX6_read_36 : decode cX6_read 36 = .ok (.ldc 33, 2) := by decide +kernel
theorem dX6_read_38 : decode cX6_read 38 = .ok (.invokevirtual 35, 3) := by decide +kernel
theorem dX6_read_41 : decode cX6_read 41 = .ok (.istore_n 3, 1) := by decide +kernel
theorem dX6_read_42 : decode cX6_read 42 = .ok (.iload_n 3, 1) := by decide +kernel
theorem dX6_read_43 : decode cX6_read 43 = .ok (.iconst (-1), 1) := by decide +kernel
theorem dX6_read_44 : decode cX6_read 44 = .ok (.if_icmp .ne 20, 3) := by decide +kernel
theorem dX6_read_47 : decode cX6_read 47 = .ok (.aload_n 0, 1) := by decide +kernel
theorem dX6_read_48 : decode cX6_read 48 = .ok (.getfield 9, 3) := by decide +kernel
theorem dX6_read_51 : decode cX6_read 51 = .ok (.iconst 0, 1) := by decide +kernel
theorem dX6_read_52 : decode cX6_read 52 = .ok (.invokevirtual 39, 3) := by decide +kernel
theorem dX6_read_55 : decode cX6_read 55 = .ok (.pop, 1) := by decide +kernel
theorem dX6_read_56 : decode cX6_read 56 = .ok (.aload_n 0, 1) := by decide +kernel
theorem dX6_read_57 : decode cX6_read 57 = .ok (.getfield 9, 3) := by decide +kernel
theorem dX6_read_60 : decode cX6_read 60 = .ok (.getfield 43, 3) := by decide +kernel
theorem dX6_read_63 : decode cX6_read 63 = .ok (.ireturn, 1) := by decide +kernel
theorem dX6_read_64 : decode cX6_read 64 = .ok (.iload_n 2, 1) := by decide +kernel
theorem dX6_read_65 : decode cX6_read 65 = .ok (.bipush 12, 2) := by decide +kernel
theorem dX6_read_67 : decode cX6_read 67 = .ok (.if_icmp .lt 20, 3) := by decide +kernel
theorem dX6_read_70 : decode cX6_read 70 = .ok (.aload_n 0, 1) := by decide +kernel
theorem dX6_read_71 : decode cX6_read 71 = .ok (.getfield 9, 3) := by decide +kernel
theorem dX6_read_74 : decode cX6_read 74 = .ok (.iconst 4, 1) := by decide +kernel
theorem dX6_read_75 : decode cX6_read 75 = .ok (.invokevirtual 39, 3) := by decide +kernel
theorem dX6_read_78 : decode cX6_read 78 = .ok (.pop, 1) := by decide +kernel
theorem dX6_read_79 : decode cX6_read 79 = .ok (.aload_n 0, 1) := by decide +kernel
theorem dX6_read_80 : decode cX6_read 80 = .ok (.getfield 9, 3) := by decide +kernel
theorem dX6_read_83 : decode cX6_read 83 = .ok (.getfield 43, 3) := by decide +kernel
theorem dX6_read_86 : decode cX6_read 86 = .ok (.ireturn, 1) := by decide +kernel
theorem dX6_read_87 : decode cX6_read 87 = .ok (.aload_n 0, 1) := by decide +kernel
theorem dX6_read_88 : decode cX6_read 88 = .ok (.getfield 9, 3) := by decide +kernel
theorem dX6_read_91 : decode cX6_read 91 = .ok (.invokevirtual 46, 3) := by decide +kernel
theorem dX6_read_94 : decode cX6_read 94 = .ok (.iload_n 3, 1) := by decide +kernel
theorem dX6_read_95 : decode cX6_read 95 = .ok (.ifCond .ne 13, 3) := by decide +kernel
theorem dX6_read_98 : decode cX6_read 98 = .ok (.aload_n 0, 1) := by decide +kernel
theorem dX6_read_99 : decode cX6_read 99 = .ok (.invokevirtual 49, 3) := by decide +kernel
theorem dX6_read_102 : decode cX6_read 102 = .ok (.ifCond .eq 21, 3) := by decide +kernel
theorem dX6_read_105 : decode cX6_read 105 = .ok (.goto 26, 3) := by decide +kernel
theorem dX6_read_108 : decode cX6_read 108 = .ok (.aload_n 0, 1) := by decide +kernel
theorem dX6_read_109 : decode cX6_read 109 = .ok (.invokevirtual 53, 3) := by decide +kernel
theorem dX6_read_112 : decode cX6_read 112 = .ok (.ifCond .eq 11, 3) := by decide +kernel
theorem dX6_read_115 : decode cX6_read 115 = .ok (.aload_n 0, 1) := by decide +kernel
theorem dX6_read_116 : decode cX6_read 116 = .ok (.iconst 0, 1) := by decide +kernel
theorem dX6_read_117 : decode cX6_read 117 = .ok (.invokevirtual 56, 3) := by decide +kernel
theorem dX6_read_120 : decode cX6_read 120 = .ok (.ifCond .ne 11, 3) := by decide +kernel
theorem dX6_read_123 : decode cX6_read 123 = .ok (.aload_n 0, 1) := by decide +kernel
theorem dX6_read_124 : decode cX6_read 124 = .ok (.getfield 9, 3) := by decide +kernel
theorem dX6_read_127 : decode cX6_read 127 = .ok (.getfield 43, 3) := by decide +kernel
theorem dX6_read_130 : decode cX6_read 130 = .ok (.ireturn, 1) := by decide +kernel
theorem dX6_read_131 : decode cX6_read 131 = .ok (.aload_n 0, 1) := by decide +kernel
theorem dX6_read_132 : decode cX6_read 132 = .ok (.getfield 9, 3) := by decide +kernel
theorem dX6_read_135 : decode cX6_read 135 = .ok (.getfield 59, 3) := by decide +kernel
theorem dX6_read_138 : decode cX6_read 138 = .ok (.ifCond .ne 5, 3) := by decide +kernel
theorem dX6_read_141 : decode cX6_read 141 = .ok (.iconst 0, 1) := by decide +kernel
theorem dX6_read_142 : decode cX6_read 142 = .ok (.ireturn, 1) := by decide +kernel
theorem dX6_read_143 : decode cX6_read 143 = .ok (.aload_n 0, 1) := by decide +kernel
theorem dX6_read_144 : decode cX6_read 144 = .ok (.getfield 9, 3) := by decide +kernel
theorem dX6_read_147 : decode cX6_read 147 = .ok (.bipush 59, 2) := by decide +kernel
theorem dX6_read_149 : decode cX6_read 149 = .ok (.invokevirtual 62, 3) := by decide +kernel
theorem dX6_read_152 : decode cX6_read 152 = .ok (.ifCond .ne 20, 3) := by decide +kernel
theorem dX6_read_155 : decode cX6_read 155 = .ok (.aload_n 0, 1) := by decide +kernel
theorem dX6_read_156 : decode cX6_read 156 = .ok (.getfield 9, 3) := by decide +kernel
theorem dX6_read_159 : decode cX6_read 159 = .ok (.iconst 0, 1) := by decide +kernel
theorem dX6_read_160 : decode cX6_read 160 = .ok (.invokevirtual 39, 3) := by decide +kernel
theorem dX6_read_163 : decode cX6_read 163 = .ok (.pop, 1) := by decide +kernel
theorem dX6_read_164 : decode cX6_read 164 = .ok (.aload_n 0, 1) := by decide +kernel
theorem dX6_read_165 : decode cX6_read 165 = .ok (.getfield 9, 3) := by decide +kernel
theorem dX6_read_168 : decode cX6_read 168 = .ok (.getfield 43, 3) := by decide +kernel
theorem dX6_read_171 : decode cX6_read 171 = .ok (.ireturn, 1) := by decide +kernel
theorem dX6_read_172 : decode cX6_read 172 = .ok (.aload_n 0, 1) := by decide +kernel
theorem dX6_read_173 : decode cX6_read 173 = .ok (.getfield 9, 3) := by decide +kernel
theorem dX6_read_176 : decode cX6_read 176 = .ok (.invokevirtual 46, 3) := by decide +kernel
theorem dX6_read_179 : decode cX6_read 179 = .ok (.iinc 2 1, 3) := by decide +kernel
theorem dX6_read_182 : decode cX6_read 182 = .ok (.goto (-156), 3) := by decide +kernel
theorem dX6_read_185 : decode cX6_read 185 = .ok (.aload_n 0, 1) := by decide +kernel
theorem dX6_read_186 : decode cX6_read 186 = .ok (.getfield 9, 3) := by decide +kernel
theorem dX6_read_189 : decode cX6_read 189 = .ok (.getfield 43, 3) := by decide +kernel
theorem dX6_read_192 : decode cX6_read 192 = .ok (.ireturn, 1) := by decide +kernel
theorem dX6_readApart_0 : decode cX6_readApart 0 = .ok (.aload_n 0, 1) := by decide +kernel
theorem dX6_readApart_1 : decode cX6_readApart 1 = .ok (.getfield 9, 3) := by decide +kernel
theorem dX6_readApart_4 : decode cX6_readApart 4 = .ok (.iconst 0, 1) := by decide +kernel
theorem dX6_readApart_5 : decode cX6_readApart 5 = .ok (.iconst 3, 1) := by decide +kernel
theorem dX6_readApart_6 : decode cX6_readApart 6 = .ok (.invokevirtual 65, 3) := by decide +kernel
theorem dX6_readApart_9 : decode cX6_readApart 9 = .ok (.ifCond .ne 5, 3) := by decide +kernel
theorem dX6_readApart_12 : decode cX6_readApart 12 = .ok (.iconst 0, 1) := by decide +kernel
theorem dX6_readApart_13 : decode cX6_readApart 13 = .ok (.ireturn, 1) := by decide +kernel
theorem dX6_readApart_14 : decode cX6_readApart 14 = .ok (.aload_n 0, 1) := by decide +kernel
theorem dX6_readApart_15 : decode cX6_readApart 15 = .ok (.getfield 9, 3) := by decide +kernel
theorem dX6_readApart_18 : decode cX6_readApart 18 = .ok (.getfield 69, 3) := by decide +kernel
theorem dX6_readApart_21 : decode cX6_readApart 21 = .ok (.istore_n 1, 1) := by decide +kernel
theorem dX6_readApart_22 : decode cX6_readApart 22 = .ok (.aload_n 0, 1) := by decide +kernel
theorem dX6_readApart_23 : decode cX6_readApart 23 = .ok (.getfield 9, 3) := by decide +kernel
theorem dX6_readApart_26 : decode cX6_readApart 26 = .ok (.iconst 0, 1) := by decide +kernel
theorem dX6_readApart_27 : decode cX6_readApart 27 = .ok (.iconst 3, 1) := by decide +kernel
theorem dX6_readApart_28 : decode cX6_readApart 28 = .ok (.invokevirtual 65, 3) := by decide +kernel
theorem dX6_readApart_31 : decode cX6_readApart 31 = .ok (.ifCond .ne 5, 3) := by decide +kernel
theorem dX6_readApart_34 : decode cX6_readApart 34 = .ok (.iconst 0, 1) := by decide +kernel
theorem dX6_readApart_35 : decode cX6_readApart 35 = .ok (.ireturn, 1) := by decide +kernel
theorem dX6_readApart_36 : decode cX6_readApart 36 = .ok (.aload_n 0, 1) := by decide +kernel
theorem dX6_readApart_37 : decode cX6_readApart 37 = .ok (.getfield 9, 3) := by decide +kernel
theorem dX6_readApart_40 : decode cX6_readApart 40 = .ok (.getfield 69, 3) := by decide +kernel
theorem dX6_readApart_43 : decode cX6_readApart 43 = .ok (.istore_n 2, 1) := by decide +kernel
theorem dX6_readApart_44 : decode cX6_readApart 44 = .ok (.aload_n 0, 1) := by decide +kernel
theorem dX6_readApart_45 : decode cX6_readApart 45 = .ok (.getfield 9, 3) := by decide +kernel
theorem dX6_readApart_48 : decode cX6_readApart 48 = .ok (.iconst 1, 1) := by decide +kernel
theorem dX6_readApart_49 : decode cX6_readApart 49 = .ok (.iconst 5, 1) := by decide +kernel
theorem dX6_readApart_50 : decode cX6_readApart 50 = .ok (.invokevirtual 65, 3) := by decide +kernel
theorem dX6_readApart_53 : decode cX6_readApart 53 = .ok (.ifCond .ne 5, 3) := by decide +kernel
theorem dX6_readApart_56 : decode cX6_readApart 56 = .ok (.iconst 0, 1) := by decide +kernel
theorem dX6_readApart_57 : decode cX6_readApart 57 = .ok (.ireturn, 1) := by decide +kernel
theorem dX6_readApart_58 : decode cX6_readApart 58 = .ok (.aload_n 0, 1) := by decide +kernel
theorem dX6_readApart_59 : decode cX6_readApart 59 = .ok (.getfield 15, 3) := by decide +kernel
theorem dX6_readApart_62 : decode cX6_readApart 62 = .ok (.iload_n 1, 1) := by decide +kernel
theorem dX6_readApart_63 : decode cX6_readApart 63 = .ok (.iload_n 2, 1) := by decide +kernel
theorem dX6_readApart_64 : decode cX6_readApart 64 = .ok (.aload_n 0, 1) := by decide +kernel
theorem dX6_readApart_65 : decode cX6_readApart 65 = .ok (.getfield 9, 3) := by decide +kernel
theorem dX6_readApart_68 : decode cX6_readApart 68 = .ok (.getfield 69, 3) := by decide +kernel
theorem dX6_readApart_71 : decode cX6_readApart 71 = .ok (.invokevirtual 72, 3) := by decide +kernel
theorem dX6_readApart_74 : decode cX6_readApart 74 = .ok (.iconst 1, 1) := by decide +kernel
theorem dX6_readApart_75 : decode cX6_readApart 75 = .ok (.ireturn, 1) := by decide +kernel
theorem dX6_readBarred_0 : decode cX6_readBarred 0 = .ok (.aload_n 0, 1) := by decide +kernel
theorem dX6_readBarred_1 : decode cX6_readBarred 1 = .ok (.getfield 9, 3) := by decide +kernel
theorem dX6_readBarred_4 : decode cX6_readBarred 4 = .ok (.iconst 0, 1) := by decide +kernel
theorem dX6_readBarred_5 : decode cX6_readBarred 5 = .ok (.iconst 3, 1) := by decide +kernel
theorem dX6_readBarred_6 : decode cX6_readBarred 6 = .ok (.invokevirtual 65, 3) := by decide +kernel
theorem dX6_readBarred_9 : decode cX6_readBarred 9 = .ok (.ifCond .ne 5, 3) := by decide +kernel
theorem dX6_readBarred_12 : decode cX6_readBarred 12 = .ok (.iconst 0, 1) := by decide +kernel
theorem dX6_readBarred_13 : decode cX6_readBarred 13 = .ok (.ireturn, 1) := by decide +kernel
theorem dX6_readBarred_14 : decode cX6_readBarred 14 = .ok (.aload_n 0, 1) := by decide +kernel
theorem dX6_readBarred_15 : decode cX6_readBarred 15 = .ok (.getfield 15, 3) := by decide +kernel
theorem dX6_readBarred_18 : decode cX6_readBarred 18 = .ok (.aload_n 0, 1) := by decide +kernel
theorem dX6_readBarred_19 : decode cX6_readBarred 19 = .ok (.getfield 9, 3) := by decide +kernel
theorem dX6_readBarred_22 : decode cX6_readBarred 22 = .ok (.getfield 69, 3) := by decide +kernel
theorem dX6_readBarred_25 : decode cX6_readBarred 25 = .ok (.invokevirtual 76, 3) := by decide +kernel
theorem dX6_readBarred_28 : decode cX6_readBarred 28 = .ok (.iconst 1, 1) := by decide +kernel
theorem dX6_readBarred_29 : decode cX6_readBarred 29 = .ok (.ireturn, 1) := by decide +kernel
theorem dX6_readTest_0 : decode cX6_readTest 0 = .ok (.iconst 0, 1) := by decide +kernel
theorem dX6_readTest_1 : decode cX6_readTest 1 = .ok (.istore_n 2, 1) := by decide +kernel
theorem dX6_readTest_2 : decode cX6_readTest 2 = .ok (.aload_n 0, 1) := by decide +kernel
theorem dX6_readTest_3 : decode cX6_readTest 3 = .ok (.iload_n 1, 1) := by decide +kernel
theorem dX6_readTest_4 : decode cX6_readTest 4 = .ok (.invokevirtual 80, 3) := by decide +kernel
theorem dX6_readTest_7 : decode cX6_readTest 7 = .ok (.ifCond .ne 5, 3) := by decide +kernel
theorem dX6_readTest_10 : decode cX6_readTest 10 = .ok (.iconst 0, 1) := by decide +kernel
theorem dX6_readTest_11 : decode cX6_readTest 11 = .ok (.ireturn, 1) := by decide +kernel
theorem dX6_readTest_12 : decode cX6_readTest 12 = .ok (.iconst 0, 1) := by decide +kernel
theorem dX6_readTest_13 : decode cX6_readTest 13 = .ok (.istore_n 3, 1) := by decide +kernel
theorem dX6_readTest_14 : decode cX6_readTest 14 = .ok (.iload_n 3, 1) := by decide +kernel
theorem dX6_readTest_15 : decode cX6_readTest 15 = .ok (.sipush 400, 3) := by decide +kernel
theorem dX6_readTest_18 : decode cX6_readTest 18 = .ok (.if_icmp .ge 95, 3) := by decide +kernel
theorem dX6_readTest_21 : decode cX6_readTest 21 = .ok (.aload_n 0, 1) := by decide +kernel
theorem dX6_readTest_22 : decode cX6_readTest 22 = .ok (.getfield 9, 3) := by decide +kernel
theorem dX6_readTest_25 : decode cX6_readTest 25 = .ok (.ldc 83, 2) := by decide +kernel
theorem dX6_readTest_27 : decode cX6_readTest 27 = .ok (.invokevirtual 35, 3) := by decide +kernel
theorem dX6_readTest_30 : decode cX6_readTest 30 = .ok (.istore 4, 2) := by decide +kernel
theorem dX6_readTest_32 : decode cX6_readTest 32 = .ok (.iload 4, 2) := by decide +kernel
theorem dX6_readTest_34 : decode cX6_readTest 34 = .ok (.iconst (-1), 1) := by decide +kernel
theorem dX6_readTest_35 : decode cX6_readTest 35 = .ok (.if_icmp .ne 6, 3) := by decide +kernel
theorem dX6_readTest_38 : decode cX6_readTest 38 = .ok (.goto 75, 3) := by decide +kernel
theorem dX6_readTest_41 : decode cX6_readTest 41 = .ok (.iload 4, 2) := by decide +kernel
theorem dX6_readTest_43 : decode cX6_readTest 43 = .ok (.iconst 1, 1) := by decide +kernel
theorem dX6_readTest_44 : decode cX6_readTest 44 = .ok (.if_icmp .ne 16, 3) := by decide +kernel
theorem dX6_readTest_47 : decode cX6_readTest 47 = .ok (.iload_n 2, 1) := by decide +kernel
theorem dX6_readTest_48 : decode cX6_readTest 48 = .ok (.ifCond .eq 12, 3) := by decide +kernel
theorem dX6_readTest_51 : decode cX6_readTest 51 = .ok (.aload_n 0, 1) := by decide +kernel
theorem dX6_readTest_52 : decode cX6_readTest 52 = .ok (.getfield 15, 3) := by decide +kernel
theorem dX6_readTest_55 : decode cX6_readTest 55 = .ok (.bipush (-21), 2) := by decide +kernel
theorem dX6_readTest_57 : decode cX6_readTest 57 = .ok (.invokevirtual 85, 3) := by decide +kernel
theorem dX6_readTest_60 : decode cX6_readTest 60 = .ok (.iload_n 2, 1) := by decide +kernel
theorem dX6_readTest_61 : decode cX6_readTest 61 = .ok (.ifCond .ne 9, 3) := by decide +kernel
theorem dX6_readTest_64 : decode cX6_readTest 64 = .ok (.iload 4, 2) := by decide +kernel
theorem dX6_readTest_66 : decode cX6_readTest 66 = .ok (.iconst 1, 1) := by decide +kernel
theorem dX6_readTest_67 : decode cX6_readTest 67 = .ok (.if_icmp .ne 7, 3) := by decide +kernel
theorem dX6_readTest_70 : decode cX6_readTest 70 = .ok (.iconst 1, 1) := by decide +kernel
theorem dX6_readTest_71 : decode cX6_readTest 71 = .ok (.goto 4, 3) := by decide +kernel
theorem dX6_readTest_74 : decode cX6_readTest 74 = .ok (.iconst 0, 1) := by decide +kernel
theorem dX6_readTest_75 : decode cX6_readTest 75 = .ok (.istore_n 2, 1) := by decide +kernel
theorem dX6_readTest_76 : decode cX6_readTest 76 = .ok (.aload_n 0, 1) := by decide +kernel
theorem dX6_readTest_77 : decode cX6_readTest 77 = .ok (.getfield 9, 3) := by decide +kernel
theorem dX6_readTest_80 : decode cX6_readTest 80 = .ok (.invokevirtual 46, 3) := by decide +kernel
theorem dX6_readTest_83 : decode cX6_readTest 83 = .ok (.aload_n 0, 1) := by decide +kernel
theorem dX6_readTest_84 : decode cX6_readTest 84 = .ok (.iload_n 1, 1) := by decide +kernel
theorem dX6_readTest_85 : decode cX6_readTest 85 = .ok (.invokevirtual 80, 3) := by decide +kernel
theorem dX6_readTest_88 : decode cX6_readTest 88 = .ok (.ifCond .ne 5, 3) := by decide +kernel
theorem dX6_readTest_91 : decode cX6_readTest 91 = .ok (.iconst 0, 1) := by decide +kernel
theorem dX6_readTest_92 : decode cX6_readTest 92 = .ok (.ireturn, 1) := by decide +kernel
theorem dX6_readTest_93 : decode cX6_readTest 93 = .ok (.iload 4, 2) := by decide +kernel
theorem dX6_readTest_95 : decode cX6_readTest 95 = .ok (.ifCond .ne 12, 3) := by decide +kernel
theorem dX6_readTest_98 : decode cX6_readTest 98 = .ok (.aload_n 0, 1) := by decide +kernel
theorem dX6_readTest_99 : decode cX6_readTest 99 = .ok (.getfield 15, 3) := by decide +kernel
theorem dX6_readTest_102 : decode cX6_readTest 102 = .ok (.bipush (-20), 2) := by decide +kernel
theorem dX6_readTest_104 : decode cX6_readTest 104 = .ok (.invokevirtual 85, 3) := by decide +kernel
theorem dX6_readTest_107 : decode cX6_readTest 107 = .ok (.iinc 3 1, 3) := by decide +kernel
theorem dX6_readTest_110 : decode cX6_readTest 110 = .ok (.goto (-96), 3) := by decide +kernel
theorem dX6_readTest_113 : decode cX6_readTest 113 = .ok (.iload_n 2, 1) := by decide +kernel
theorem dX6_readTest_114 : decode cX6_readTest 114 = .ok (.ifCond .eq 12, 3) := by decide +kernel
theorem dX6_readTest_117 : decode cX6_readTest 117 = .ok (.aload_n 0, 1) := by decide +kernel
theorem dX6_readTest_118 : decode cX6_readTest 118 = .ok (.getfield 15, 3) := by decide +kernel
theorem dX6_readTest_121 : decode cX6_readTest 121 = .ok (.bipush (-21), 2) := by decide +kernel
theorem dX6_readTest_123 : decode cX6_readTest 123 = .ok (.invokevirtual 85, 3) := by decide +kernel
theorem dX6_readTest_126 : decode cX6_readTest 126 = .ok (.iconst 1, 1) := by decide +kernel
theorem dX6_readTest_127 : decode cX6_readTest 127 = .ok (.ireturn, 1) := by decide +kernel
theorem dX6_readFact_0 : decode cX6_readFact 0 = .ok (.aload_n 0, 1) := by decide +kernel
theorem dX6_readFact_1 : decode cX6_readFact 1 = .ok (.getfield 9, 3) := by decide +kernel
theorem dX6_readFact_4 : decode cX6_readFact 4 = .ok (.ldc 88, 2) := by decide +kernel
theorem dX6_readFact_6 : decode cX6_readFact 6 = .ok (.invokevirtual 35, 3) := by decide +kernel
theorem dX6_readFact_9 : decode cX6_readFact 9 = .ok (.ifCond .ne 7, 3) := by decide +kernel
theorem dX6_readFact_12 : decode cX6_readFact 12 = .ok (.iconst 1, 1) := by decide +kernel
theorem dX6_readFact_13 : decode cX6_readFact 13 = .ok (.goto 4, 3) := by decide +kernel
theorem dX6_readFact_16 : decode cX6_readFact 16 = .ok (.iconst 0, 1) := by decide +kernel
theorem dX6_readFact_17 : decode cX6_readFact 17 = .ok (.istore_n 2, 1) := by decide +kernel
theorem dX6_readFact_18 : decode cX6_readFact 18 = .ok (.iload_n 2, 1) := by decide +kernel
theorem dX6_readFact_19 : decode cX6_readFact 19 = .ok (.ifCond .ne 49, 3) := by decide +kernel
theorem dX6_readFact_22 : decode cX6_readFact 22 = .ok (.aload_n 0, 1) := by decide +kernel
theorem dX6_readFact_23 : decode cX6_readFact 23 = .ok (.getfield 9, 3) := by decide +kernel
theorem dX6_readFact_26 : decode cX6_readFact 26 = .ok (.bipush 91, 2) := by decide +kernel
theorem dX6_readFact_28 : decode cX6_readFact 28 = .ok (.invokevirtual 62, 3) := by decide +kernel
theorem dX6_readFact_31 : decode cX6_readFact 31 = .ok (.ifCond .ne 37, 3) := by decide +kernel
theorem dX6_readFact_34 : decode cX6_readFact 34 = .ok (.aload_n 0, 1) := by decide +kernel
theorem dX6_readFact_35 : decode cX6_readFact 35 = .ok (.invokevirtual 90, 3) := by decide +kernel
theorem dX6_readFact_38 : decode cX6_readFact 38 = .ok (.ifCond .eq 28, 3) := by decide +kernel
theorem dX6_readFact_41 : decode cX6_readFact 41 = .ok (.aload_n 0, 1) := by decide +kernel
theorem dX6_readFact_42 : decode cX6_readFact 42 = .ok (.invokevirtual 93, 3) := by decide +kernel
theorem dX6_readFact_45 : decode cX6_readFact 45 = .ok (.ifCond .eq 21, 3) := by decide +kernel
theorem dX6_readFact_48 : decode cX6_readFact 48 = .ok (.aload_n 0, 1) := by decide +kernel
theorem dX6_readFact_49 : decode cX6_readFact 49 = .ok (.invokevirtual 90, 3) := by decide +kernel
theorem dX6_readFact_52 : decode cX6_readFact 52 = .ok (.ifCond .eq 14, 3) := by decide +kernel
theorem dX6_readFact_55 : decode cX6_readFact 55 = .ok (.aload_n 0, 1) := by decide +kernel
theorem dX6_readFact_56 : decode cX6_readFact 56 = .ok (.invokevirtual 96, 3) := by decide +kernel
theorem dX6_readFact_59 : decode cX6_readFact 59 = .ok (.ifCond .eq 7, 3) := by decide +kernel
theorem dX6_readFact_62 : decode cX6_readFact 62 = .ok (.iconst 1, 1) := by decide +kernel
theorem dX6_readFact_63 : decode cX6_readFact 63 = .ok (.goto 4, 3) := by decide +kernel
theorem dX6_readFact_66 : decode cX6_readFact 66 = .ok (.iconst 0, 1) := by decide +kernel
theorem dX6_readFact_67 : decode cX6_readFact 67 = .ok (.ireturn, 1) := by decide +kernel
theorem dX6_readFact_68 : decode cX6_readFact 68 = .ok (.iload_n 1, 1) := by decide +kernel
theorem dX6_readFact_69 : decode cX6_readFact 69 = .ok (.bipush 10, 2) := by decide +kernel
theorem dX6_readFact_71 : decode cX6_readFact 71 = .ok (.if_icmp .lt 12, 3) := by decide +kernel
theorem dX6_readFact_74 : decode cX6_readFact 74 = .ok (.aload_n 0, 1) := by decide +kernel
theorem dX6_readFact_75 : decode cX6_readFact 75 = .ok (.getfield 9, 3) := by decide +kernel
theorem dX6_readFact_78 : decode cX6_readFact 78 = .ok (.iconst 2, 1) := by decide +kernel
theorem dX6_readFact_79 : decode cX6_readFact 79 = .ok (.invokevirtual 39, 3) := by decide +kernel
theorem dX6_readFact_82 : decode cX6_readFact 82 = .ok (.ireturn, 1) := by decide +kernel
theorem dX6_readFact_83 : decode cX6_readFact 83 = .ok (.aload_n 0, 1) := by decide +kernel
theorem dX6_readFact_84 : decode cX6_readFact 84 = .ok (.getfield 9, 3) := by decide +kernel
theorem dX6_readFact_87 : decode cX6_readFact 87 = .ok (.invokevirtual 46, 3) := by decide +kernel
theorem dX6_readFact_90 : decode cX6_readFact 90 = .ok (.iload_n 2, 1) := by decide +kernel
theorem dX6_readFact_91 : decode cX6_readFact 91 = .ok (.ifCond .eq 26, 3) := by decide +kernel
theorem dX6_readFact_94 : decode cX6_readFact 94 = .ok (.aload_n 0, 1) := by decide +kernel
theorem dX6_readFact_95 : decode cX6_readFact 95 = .ok (.iload_n 1, 1) := by decide +kernel
theorem dX6_readFact_96 : decode cX6_readFact 96 = .ok (.iconst 1, 1) := by decide +kernel
theorem dX6_readFact_97 : decode cX6_readFact 97 = .ok (.iadd, 1) := by decide +kernel
theorem dX6_readFact_98 : decode cX6_readFact 98 = .ok (.invokevirtual 80, 3) := by decide +kernel
theorem dX6_readFact_101 : decode cX6_readFact 101 = .ok (.ifCond .ne 5, 3) := by decide +kernel
theorem dX6_readFact_104 : decode cX6_readFact 104 = .ok (.iconst 0, 1) := by decide +kernel
theorem dX6_readFact_105 : decode cX6_readFact 105 = .ok (.ireturn, 1) := by decide +kernel
theorem dX6_readFact_106 : decode cX6_readFact 106 = .ok (.aload_n 0, 1) := by decide +kernel
theorem dX6_readFact_107 : decode cX6_readFact 107 = .ok (.getfield 15, 3) := by decide +kernel
theorem dX6_readFact_110 : decode cX6_readFact 110 = .ok (.bipush (-22), 2) := by decide +kernel
theorem dX6_readFact_112 : decode cX6_readFact 112 = .ok (.invokevirtual 85, 3) := by decide +kernel
theorem dX6_readFact_115 : decode cX6_readFact 115 = .ok (.iconst 1, 1) := by decide +kernel
theorem dX6_readFact_116 : decode cX6_readFact 116 = .ok (.ireturn, 1) := by decide +kernel
theorem dX6_readFact_117 : decode cX6_readFact 117 = .ok (.aload_n 0, 1) := by decide +kernel
theorem dX6_readFact_118 : decode cX6_readFact 118 = .ok (.iload_n 1, 1) := by decide +kernel
theorem dX6_readFact_119 : decode cX6_readFact 119 = .ok (.iconst 1, 1) := by decide +kernel
theorem dX6_readFact_120 : decode cX6_readFact 120 = .ok (.iadd, 1) := by decide +kernel
theorem dX6_readFact_121 : decode cX6_readFact 121 = .ok (.invokevirtual 56, 3) := by decide +kernel
theorem dX6_readFact_124 : decode cX6_readFact 124 = .ok (.ifCond .ne 5, 3) := by decide +kernel
theorem dX6_readFact_127 : decode cX6_readFact 127 = .ok (.iconst 0, 1) := by decide +kernel
theorem dX6_readFact_128 : decode cX6_readFact 128 = .ok (.ireturn, 1) := by decide +kernel
theorem dX6_readFact_129 : decode cX6_readFact 129 = .ok (.aload_n 0, 1) := by decide +kernel
theorem dX6_readFact_130 : decode cX6_readFact 130 = .ok (.getfield 9, 3) := by decide +kernel
theorem dX6_readFact_133 : decode cX6_readFact 133 = .ok (.bipush 93, 2) := by decide +kernel
theorem dX6_readFact_135 : decode cX6_readFact 135 = .ok (.invokevirtual 62, 3) := by decide +kernel
theorem dX6_readFact_138 : decode cX6_readFact 138 = .ok (.ifCond .ne 12, 3) := by decide +kernel
theorem dX6_readFact_141 : decode cX6_readFact 141 = .ok (.aload_n 0, 1) := by decide +kernel
theorem dX6_readFact_142 : decode cX6_readFact 142 = .ok (.getfield 9, 3) := by decide +kernel
theorem dX6_readFact_145 : decode cX6_readFact 145 = .ok (.iconst 0, 1) := by decide +kernel
theorem dX6_readFact_146 : decode cX6_readFact 146 = .ok (.invokevirtual 39, 3) := by decide +kernel
theorem dX6_readFact_149 : decode cX6_readFact 149 = .ok (.ireturn, 1) := by decide +kernel
theorem dX6_readFact_150 : decode cX6_readFact 150 = .ok (.aload_n 0, 1) := by decide +kernel
theorem dX6_readFact_151 : decode cX6_readFact 151 = .ok (.getfield 9, 3) := by decide +kernel
theorem dX6_readFact_154 : decode cX6_readFact 154 = .ok (.invokevirtual 46, 3) := by decide +kernel
theorem dX6_readFact_157 : decode cX6_readFact 157 = .ok (.iconst 1, 1) := by decide +kernel
theorem dX6_readFact_158 : decode cX6_readFact 158 = .ok (.ireturn, 1) := by decide +kernel
theorem dX6_readComparison_0 : decode cX6_readComparison 0 = .ok (.aload_n 0, 1) := by decide +kernel
theorem dX6_readComparison_1 : decode cX6_readComparison 1 = .ok (.invokevirtual 99, 3) := by decide +kernel
theorem dX6_readComparison_4 : decode cX6_readComparison 4 = .ok (.istore_n 1, 1) := by decide +kernel
theorem dX6_readComparison_5 : decode cX6_readComparison 5 = .ok (.iload_n 1, 1) := by decide +kernel
theorem dX6_readComparison_6 : decode cX6_readComparison 6 = .ok (.bipush (-15), 2) := by decide +kernel
theorem dX6_readComparison_8 : decode cX6_readComparison 8 = .ok (.if_icmp .gt 9, 3) := by decide +kernel
theorem dX6_readComparison_11 : decode cX6_readComparison 11 = .ok (.iload_n 1, 1) := by decide +kernel
theorem dX6_readComparison_12 : decode cX6_readComparison 12 = .ok (.bipush (-19), 2) := by decide +kernel
theorem dX6_readComparison_14 : decode cX6_readComparison 14 = .ok (.if_icmp .ge 12, 3) := by decide +kernel
theorem dX6_readComparison_17 : decode cX6_readComparison 17 = .ok (.aload_n 0, 1) := by decide +kernel
theorem dX6_readComparison_18 : decode cX6_readComparison 18 = .ok (.getfield 9, 3) := by decide +kernel
theorem dX6_readComparison_21 : decode cX6_readComparison 21 = .ok (.iconst 0, 1) := by decide +kernel
theorem dX6_readComparison_22 : decode cX6_readComparison 22 = .ok (.invokevirtual 39, 3) := by decide +kernel
theorem dX6_readComparison_25 : decode cX6_readComparison 25 = .ok (.ireturn, 1) := by decide +kernel
theorem dX6_readComparison_26 : decode cX6_readComparison 26 = .ok (.aload_n 0, 1) := by decide +kernel
theorem dX6_readComparison_27 : decode cX6_readComparison 27 = .ok (.invokevirtual 103, 3) := by decide +kernel
theorem dX6_readComparison_30 : decode cX6_readComparison 30 = .ok (.ifCond .ne 5, 3) := by decide +kernel
theorem dX6_readComparison_33 : decode cX6_readComparison 33 = .ok (.iconst 0, 1) := by decide +kernel
theorem dX6_readComparison_34 : decode cX6_readComparison 34 = .ok (.ireturn, 1) := by decide +kernel
theorem dX6_readComparison_35 : decode cX6_readComparison 35 = .ok (.aload_n 0, 1) := by decide +kernel
theorem dX6_readComparison_36 : decode cX6_readComparison 36 = .ok (.iload_n 1, 1) := by decide +kernel
theorem dX6_readComparison_37 : decode cX6_readComparison 37 = .ok (.putfield 106, 3) := by decide +kernel
theorem dX6_readComparison_40 : decode cX6_readComparison 40 = .ok (.aload_n 0, 1) := by decide +kernel
theorem dX6_readComparison_41 : decode cX6_readComparison 41 = .ok (.getfield 9, 3) := by decide +kernel
theorem dX6_readComparison_44 : decode cX6_readComparison 44 = .ok (.invokevirtual 46, 3) := by decide +kernel
theorem dX6_readComparison_47 : decode cX6_readComparison 47 = .ok (.iconst 1, 1) := by decide +kernel
theorem dX6_readComparison_48 : decode cX6_readComparison 48 = .ok (.ireturn, 1) := by decide +kernel
theorem dX6_endComparison_0 : decode cX6_endComparison 0 = .ok (.aload_n 0, 1) := by decide +kernel
theorem dX6_endComparison_1 : decode cX6_endComparison 1 = .ok (.getfield 15, 3) := by decide +kernel
theorem dX6_endComparison_4 : decode cX6_endComparison 4 = .ok (.aload_n 0, 1) := by decide +kernel
theorem dX6_endComparison_5 : decode cX6_endComparison 5 = .ok (.getfield 106, 3) := by decide +kernel
theorem dX6_endComparison_8 : decode cX6_endComparison 8 = .ok (.invokevirtual 85, 3) := by decide +kernel
theorem dX6_endComparison_11 : decode cX6_endComparison 11 = .ok (.iconst 1, 1) := by decide +kernel
theorem dX6_endComparison_12 : decode cX6_endComparison 12 = .ok (.ireturn, 1) := by decide +kernel
theorem dX6_readSum_0 : decode cX6_readSum 0 = .ok (.iconst 0, 1) := by decide +kernel
theorem dX6_readSum_1 : decode cX6_readSum 1 = .ok (.istore_n 1, 1) := by decide +kernel
theorem dX6_readSum_2 : decode cX6_readSum 2 = .ok (.aload_n 0, 1) := by decide +kernel
theorem dX6_readSum_3 : decode cX6_readSum 3 = .ok (.invokevirtual 109, 3) := by decide +kernel
theorem dX6_readSum_6 : decode cX6_readSum 6 = .ok (.ifCond .ne 5, 3) := by decide +kernel
theorem dX6_readSum_9 : decode cX6_readSum 9 = .ok (.iconst 0, 1) := by decide +kernel
theorem dX6_readSum_10 : decode cX6_readSum 10 = .ok (.ireturn, 1) := by decide +kernel
theorem dX6_readSum_11 : decode cX6_readSum 11 = .ok (.iconst 0, 1) := by decide +kernel
theorem dX6_readSum_12 : decode cX6_readSum 12 = .ok (.istore_n 2, 1) := by decide +kernel
theorem dX6_readSum_13 : decode cX6_readSum 13 = .ok (.iload_n 2, 1) := by decide +kernel
theorem dX6_readSum_14 : decode cX6_readSum 14 = .ok (.sipush 400, 3) := by decide +kernel
theorem dX6_readSum_17 : decode cX6_readSum 17 = .ok (.if_icmp .ge 93, 3) := by decide +kernel
theorem dX6_readSum_20 : decode cX6_readSum 20 = .ok (.aload_n 0, 1) := by decide +kernel
theorem dX6_readSum_21 : decode cX6_readSum 21 = .ok (.invokevirtual 99, 3) := by decide +kernel
theorem dX6_readSum_24 : decode cX6_readSum 24 = .ok (.istore_n 3, 1) := by decide +kernel
theorem dX6_readSum_25 : decode cX6_readSum 25 = .ok (.iload_n 3, 1) := by decide +kernel
theorem dX6_readSum_26 : decode cX6_readSum 26 = .ok (.bipush (-11), 2) := by decide +kernel
theorem dX6_readSum_28 : decode cX6_readSum 28 = .ok (.if_icmp .gt 82, 3) := by decide +kernel
theorem dX6_readSum_31 : decode cX6_readSum 31 = .ok (.iload_n 3, 1) := by decide +kernel
theorem dX6_readSum_32 : decode cX6_readSum 32 = .ok (.bipush (-14), 2) := by decide +kernel
theorem dX6_readSum_34 : decode cX6_readSum 34 = .ok (.if_icmp .ge 6, 3) := by decide +kernel
theorem dX6_readSum_37 : decode cX6_readSum 37 = .ok (.goto 73, 3) := by decide +kernel
theorem dX6_readSum_40 : decode cX6_readSum 40 = .ok (.iload_n 3, 1) := by decide +kernel
theorem dX6_readSum_41 : decode cX6_readSum 41 = .ok (.bipush (-12), 2) := by decide +kernel
theorem dX6_readSum_43 : decode cX6_readSum 43 = .ok (.if_icmp .lt 7, 3) := by decide +kernel
theorem dX6_readSum_46 : decode cX6_readSum 46 = .ok (.iconst 1, 1) := by decide +kernel
theorem dX6_readSum_47 : decode cX6_readSum 47 = .ok (.goto 4, 3) := by decide +kernel
theorem dX6_readSum_50 : decode cX6_readSum 50 = .ok (.iconst 0, 1) := by decide +kernel
theorem dX6_readSum_51 : decode cX6_readSum 51 = .ok (.istore 4, 2) := by decide +kernel
theorem dX6_readSum_53 : decode cX6_readSum 53 = .ok (.iload 4, 2) := by decide +kernel
theorem dX6_readSum_55 : decode cX6_readSum 55 = .ok (.ifCond .eq 15, 3) := by decide +kernel
theorem dX6_readSum_58 : decode cX6_readSum 58 = .ok (.iload_n 1, 1) := by decide +kernel
theorem dX6_readSum_59 : decode cX6_readSum 59 = .ok (.ifCond .eq 11, 3) := by decide +kernel
theorem dX6_readSum_62 : decode cX6_readSum 62 = .ok (.aload_n 0, 1) := by decide +kernel
theorem dX6_readSum_63 : decode cX6_readSum 63 = .ok (.getfield 15, 3) := by decide +kernel
theorem dX6_readSum_66 : decode cX6_readSum 66 = .ok (.iload_n 1, 1) := by decide +kernel
theorem dX6_readSum_67 : decode cX6_readSum 67 = .ok (.invokevirtual 85, 3) := by decide +kernel
theorem dX6_readSum_70 : decode cX6_readSum 70 = .ok (.aload_n 0, 1) := by decide +kernel
theorem dX6_readSum_71 : decode cX6_readSum 71 = .ok (.getfield 9, 3) := by decide +kernel
theorem dX6_readSum_74 : decode cX6_readSum 74 = .ok (.invokevirtual 46, 3) := by decide +kernel
theorem dX6_readSum_77 : decode cX6_readSum 77 = .ok (.aload_n 0, 1) := by decide +kernel
theorem dX6_readSum_78 : decode cX6_readSum 78 = .ok (.invokevirtual 109, 3) := by decide +kernel
theorem dX6_readSum_81 : decode cX6_readSum 81 = .ok (.ifCond .ne 5, 3) := by decide +kernel
theorem dX6_readSum_84 : decode cX6_readSum 84 = .ok (.iconst 0, 1) := by decide +kernel
theorem dX6_readSum_85 : decode cX6_readSum 85 = .ok (.ireturn, 1) := by decide +kernel
theorem dX6_readSum_86 : decode cX6_readSum 86 = .ok (.iload 4, 2) := by decide +kernel
theorem dX6_readSum_88 : decode cX6_readSum 88 = .ok (.ifCond .eq 8, 3) := by decide +kernel
theorem dX6_readSum_91 : decode cX6_readSum 91 = .ok (.iload_n 3, 1) := by decide +kernel
theorem dX6_readSum_92 : decode cX6_readSum 92 = .ok (.istore_n 1, 1) := by decide +kernel
theorem dX6_readSum_93 : decode cX6_readSum 93 = .ok (.goto 11, 3) := by decide +kernel
theorem dX6_readSum_96 : decode cX6_readSum 96 = .ok (.aload_n 0, 1) := by decide +kernel
theorem dX6_readSum_97 : decode cX6_readSum 97 = .ok (.getfield 15, 3) := by decide +kernel
theorem dX6_readSum_100 : decode cX6_readSum 100 = .ok (.iload_n 3, 1) := by decide +kernel
theorem dX6_readSum_101 : decode cX6_readSum 101 = .ok (.invokevirtual 85, 3) := by decide +kernel
theorem dX6_readSum_104 : decode cX6_readSum 104 = .ok (.iinc 2 1, 3) := by decide +kernel
theorem dX6_readSum_107 : decode cX6_readSum 107 = .ok (.goto (-94), 3) := by decide +kernel
theorem dX6_readSum_110 : decode cX6_readSum 110 = .ok (.iload_n 1, 1) := by decide +kernel
theorem dX6_readSum_111 : decode cX6_readSum 111 = .ok (.ifCond .eq 11, 3) := by decide +kernel
theorem dX6_readSum_114 : decode cX6_readSum 114 = .ok (.aload_n 0, 1) := by decide +kernel
theorem dX6_readSum_115 : decode cX6_readSum 115 = .ok (.getfield 15, 3) := by decide +kernel
theorem dX6_readSum_118 : decode cX6_readSum 118 = .ok (.iload_n 1, 1) := by decide +kernel
theorem dX6_readSum_119 : decode cX6_readSum 119 = .ok (.invokevirtual 85, 3) := by decide +kernel
theorem dX6_readSum_122 : decode cX6_readSum 122 = .ok (.iconst 1, 1) := by decide +kernel
theorem dX6_readSum_123 : decode cX6_readSum 123 = .ok (.ireturn, 1) := by decide +kernel
theorem dX6_readValue_0 : decode cX6_readValue 0 = .ok (.aload_n 0, 1) := by decide +kernel
theorem dX6_readValue_1 : decode cX6_readValue 1 = .ok (.getfield 9, 3) := by decide +kernel
theorem dX6_readValue_4 : decode cX6_readValue 4 = .ok (.ldc 112, 2) := by decide +kernel
theorem dX6_readValue_6 : decode cX6_readValue 6 = .ok (.invokevirtual 35, 3) := by decide +kernel
theorem dX6_readValue_9 : decode cX6_readValue 9 = .ok (.istore_n 1, 1) := by decide +kernel
theorem dX6_readValue_10 : decode cX6_readValue 10 = .ok (.aload_n 0, 1) := by decide +kernel
theorem dX6_readValue_11 : decode cX6_readValue 11 = .ok (.getfield 9, 3) := by decide +kernel
theorem dX6_readValue_14 : decode cX6_readValue 14 = .ok (.getfield 59, 3) := by decide +kernel
theorem dX6_readValue_17 : decode cX6_readValue 17 = .ok (.iconst 1, 1) := by decide +kernel
theorem dX6_readValue_18 : decode cX6_readValue 18 = .ok (.if_icmp .eq 17, 3) := by decide +kernel
theorem dX6_readValue_21 : decode cX6_readValue 21 = .ok (.iload_n 1, 1) := by decide +kernel
theorem dX6_readValue_22 : decode cX6_readValue 22 = .ok (.iconst (-1), 1) := by decide +kernel
theorem dX6_readValue_23 : decode cX6_readValue 23 = .ok (.if_icmp .ne 12, 3) := by decide +kernel
theorem dX6_readValue_26 : decode cX6_readValue 26 = .ok (.aload_n 0, 1) := by decide +kernel
theorem dX6_readValue_27 : decode cX6_readValue 27 = .ok (.getfield 9, 3) := by decide +kernel
theorem dX6_readValue_30 : decode cX6_readValue 30 = .ok (.iconst 0, 1) := by decide +kernel
theorem dX6_readValue_31 : decode cX6_readValue 31 = .ok (.invokevirtual 39, 3) := by decide +kernel
theorem dX6_readValue_34 : decode cX6_readValue 34 = .ok (.ireturn, 1) := by decide +kernel
theorem dX6_readValue_35 : decode cX6_readValue 35 = .ok (.iload_n 1, 1) := by decide +kernel
theorem dX6_readValue_36 : decode cX6_readValue 36 = .ok (.iconst (-1), 1) := by decide +kernel
theorem dX6_readValue_37 : decode cX6_readValue 37 = .ok (.if_icmp .ne 22, 3) := by decide +kernel
theorem dX6_readValue_40 : decode cX6_readValue 40 = .ok (.aload_n 0, 1) := by decide +kernel
theorem dX6_readValue_41 : decode cX6_readValue 41 = .ok (.getfield 9, 3) := by decide +kernel
theorem dX6_readValue_44 : decode cX6_readValue 44 = .ok (.getfield 114, 3) := by decide +kernel
theorem dX6_readValue_47 : decode cX6_readValue 47 = .ok (.ifCond .ge 12, 3) := by decide +kernel
theorem dX6_readValue_50 : decode cX6_readValue 50 = .ok (.aload_n 0, 1) := by decide +kernel
theorem dX6_readValue_51 : decode cX6_readValue 51 = .ok (.getfield 9, 3) := by decide +kernel
theorem dX6_readValue_54 : decode cX6_readValue 54 = .ok (.iconst 1, 1) := by decide +kernel
theorem dX6_readValue_55 : decode cX6_readValue 55 = .ok (.invokevirtual 39, 3) := by decide +kernel
theorem dX6_readValue_58 : decode cX6_readValue 58 = .ok (.ireturn, 1) := by decide +kernel
theorem dX6_readValue_59 : decode cX6_readValue 59 = .ok (.aload_n 0, 1) := by decide +kernel
theorem dX6_readValue_60 : decode cX6_readValue 60 = .ok (.invokevirtual 103, 3) := by decide +kernel
theorem dX6_readValue_63 : decode cX6_readValue 63 = .ok (.ifCond .ne 5, 3) := by decide +kernel
theorem dX6_readValue_66 : decode cX6_readValue 66 = .ok (.iconst 0, 1) := by decide +kernel
theorem dX6_readValue_67 : decode cX6_readValue 67 = .ok (.ireturn, 1) := by decide +kernel
theorem dX6_readValue_68 : decode cX6_readValue 68 = .ok (.aload_n 0, 1) := by decide +kernel
theorem dX6_readValue_69 : decode cX6_readValue 69 = .ok (.getfield 15, 3) := by decide +kernel
theorem dX6_readValue_72 : decode cX6_readValue 72 = .ok (.iload_n 1, 1) := by decide +kernel
theorem dX6_readValue_73 : decode cX6_readValue 73 = .ok (.iconst (-1), 1) := by decide +kernel
theorem dX6_readValue_74 : decode cX6_readValue 74 = .ok (.if_icmp .ne 13, 3) := by decide +kernel
theorem dX6_readValue_77 : decode cX6_readValue 77 = .ok (.aload_n 0, 1) := by decide +kernel
theorem dX6_readValue_78 : decode cX6_readValue 78 = .ok (.getfield 9, 3) := by decide +kernel
theorem dX6_readValue_81 : decode cX6_readValue 81 = .ok (.getfield 114, 3) := by decide +kernel
theorem dX6_readValue_84 : decode cX6_readValue 84 = .ok (.goto 6, 3) := by decide +kernel
theorem dX6_readValue_87 : decode cX6_readValue 87 = .ok (.iconst (-1), 1) := by decide +kernel
theorem dX6_readValue_88 : decode cX6_readValue 88 = .ok (.iload_n 1, 1) := by decide +kernel
theorem dX6_readValue_89 : decode cX6_readValue 89 = .ok (.isub, 1) := by decide +kernel
theorem dX6_readValue_90 : decode cX6_readValue 90 = .ok (.invokevirtual 85, 3) := by decide +kernel
theorem dX6_readValue_93 : decode cX6_readValue 93 = .ok (.aload_n 0, 1) := by decide +kernel
theorem dX6_readValue_94 : decode cX6_readValue 94 = .ok (.getfield 9, 3) := by decide +kernel
theorem dX6_readValue_97 : decode cX6_readValue 97 = .ok (.invokevirtual 46, 3) := by decide +kernel
theorem dX6_readValue_100 : decode cX6_readValue 100 = .ok (.iconst 1, 1) := by decide +kernel
theorem dX6_readValue_101 : decode cX6_readValue 101 = .ok (.ireturn, 1) := by decide +kernel
theorem dX6_isRoomForPart_0 : decode cX6_isRoomForPart 0 = .ok (.aload_n 0, 1) := by decide +kernel
theorem dX6_isRoomForPart_1 : decode cX6_isRoomForPart 1 = .ok (.getfield 24, 3) := by decide +kernel
theorem dX6_isRoomForPart_4 : decode cX6_isRoomForPart 4 = .ok (.bipush 60, 2) := by decide +kernel
theorem dX6_isRoomForPart_6 : decode cX6_isRoomForPart 6 = .ok (.if_icmp .lt 19, 3) := by decide +kernel
theorem dX6_isRoomForPart_9 : decode cX6_isRoomForPart 9 = .ok (.aload_n 0, 1) := by decide +kernel
theorem dX6_isRoomForPart_10 : decode cX6_isRoomForPart 10 = .ok (.getfield 9, 3) := by decide +kernel
theorem dX6_isRoomForPart_13 : decode cX6_isRoomForPart 13 = .ok (.aload_n 0, 1) := by decide +kernel
theorem dX6_isRoomForPart_14 : decode cX6_isRoomForPart 14 = .ok (.getfield 9, 3) := by decide +kernel
theorem dX6_isRoomForPart_17 : decode cX6_isRoomForPart 17 = .ok (.getfield 117, 3) := by decide +kernel
theorem dX6_isRoomForPart_20 : decode cX6_isRoomForPart 20 = .ok (.iconst 3, 1) := by decide +kernel
theorem dX6_isRoomForPart_21 : decode cX6_isRoomForPart 21 = .ok (.invokevirtual 120, 3) := by decide +kernel
theorem dX6_isRoomForPart_24 : decode cX6_isRoomForPart 24 = .ok (.ireturn, 1) := by decide +kernel
theorem dX6_isRoomForPart_25 : decode cX6_isRoomForPart 25 = .ok (.aload_n 0, 1) := by decide +kernel
theorem dX6_isRoomForPart_26 : decode cX6_isRoomForPart 26 = .ok (.dup, 1) := by decide +kernel
theorem dX6_isRoomForPart_27 : decode cX6_isRoomForPart 27 = .ok (.getfield 24, 3) := by decide +kernel
theorem dX6_isRoomForPart_30 : decode cX6_isRoomForPart 30 = .ok (.iconst 1, 1) := by decide +kernel
theorem dX6_isRoomForPart_31 : decode cX6_isRoomForPart 31 = .ok (.iadd, 1) := by decide +kernel
theorem dX6_isRoomForPart_32 : decode cX6_isRoomForPart 32 = .ok (.putfield 24, 3) := by decide +kernel
theorem dX6_isRoomForPart_35 : decode cX6_isRoomForPart 35 = .ok (.iconst 1, 1) := by decide +kernel
theorem dX6_isRoomForPart_36 : decode cX6_isRoomForPart 36 = .ok (.ireturn, 1) := by decide +kernel
theorem dX6_signCode_0 : decode cX6_signCode 0 = .ok (.aload_n 0, 1) := by decide +kernel
theorem dX6_signCode_1 : decode cX6_signCode 1 = .ok (.getfield 9, 3) := by decide +kernel
theorem dX6_signCode_4 : decode cX6_signCode 4 = .ok (.getfield 59, 3) := by decide +kernel
theorem dX6_signCode_7 : decode cX6_signCode 7 = .ok (.iconst 3, 1) := by decide +kernel
theorem dX6_signCode_8 : decode cX6_signCode 8 = .ok (.if_icmp .eq 5, 3) := by decide +kernel
theorem dX6_signCode_11 : decode cX6_signCode 11 = .ok (.iconst 0, 1) := by decide +kernel
theorem dX6_signCode_12 : decode cX6_signCode 12 = .ok (.ireturn, 1) := by decide +kernel
theorem dX6_signCode_13 : decode cX6_signCode 13 = .ok (.aload_n 0, 1) := by decide +kernel
theorem dX6_signCode_14 : decode cX6_signCode 14 = .ok (.getfield 9, 3) := by decide +kernel
theorem dX6_signCode_17 : decode cX6_signCode 17 = .ok (.getfield 114, 3) := by decide +kernel
theorem dX6_signCode_20 : decode cX6_signCode 20 = .ok (.lookupswitch 111 #[(42, 90), (43, 84), (45, 87), (47, 93), (60, 96), (61, 102), (62, 108), (316, 99), (318, 105)], 84) := by decide +kernel
theorem dX6_signCode_104 : decode cX6_signCode 104 = .ok (.bipush (-11), 2) := by decide +kernel
theorem dX6_signCode_106 : decode cX6_signCode 106 = .ok (.ireturn, 1) := by decide +kernel
theorem dX6_signCode_107 : decode cX6_signCode 107 = .ok (.bipush (-12), 2) := by decide +kernel
theorem dX6_signCode_109 : decode cX6_signCode 109 = .ok (.ireturn, 1) := by decide +kernel
theorem dX6_signCode_110 : decode cX6_signCode 110 = .ok (.bipush (-13), 2) := by decide +kernel
theorem dX6_signCode_112 : decode cX6_signCode 112 = .ok (.ireturn, 1) := by decide +kernel
theorem dX6_signCode_113 : decode cX6_signCode 113 = .ok (.bipush (-14), 2) := by decide +kernel
theorem dX6_signCode_115 : decode cX6_signCode 115 = .ok (.ireturn, 1) := by decide +kernel
theorem dX6_signCode_116 : decode cX6_signCode 116 = .ok (.bipush (-15), 2) := by decide +kernel
theorem dX6_signCode_118 : decode cX6_signCode 118 = .ok (.ireturn, 1) := by decide +kernel
theorem dX6_signCode_119 : decode cX6_signCode 119 = .ok (.bipush (-16), 2) := by decide +kernel
theorem dX6_signCode_121 : decode cX6_signCode 121 = .ok (.ireturn, 1) := by decide +kernel
theorem dX6_signCode_122 : decode cX6_signCode 122 = .ok (.bipush (-17), 2) := by decide +kernel
theorem dX6_signCode_124 : decode cX6_signCode 124 = .ok (.ireturn, 1) := by decide +kernel
theorem dX6_signCode_125 : decode cX6_signCode 125 = .ok (.bipush (-18), 2) := by decide +kernel
theorem dX6_signCode_127 : decode cX6_signCode 127 = .ok (.ireturn, 1) := by decide +kernel
theorem dX6_signCode_128 : decode cX6_signCode 128 = .ok (.bipush (-19), 2) := by decide +kernel
theorem dX6_signCode_130 : decode cX6_signCode 130 = .ok (.ireturn, 1) := by decide +kernel
theorem dX6_signCode_131 : decode cX6_signCode 131 = .ok (.iconst 0, 1) := by decide +kernel
theorem dX6_signCode_132 : decode cX6_signCode 132 = .ok (.ireturn, 1) := by decide +kernel
theorem dX7_init_0 : decode cX7_init 0 = .ok (.aload_n 0, 1) := by decide +kernel
theorem dX7_init_1 : decode cX7_init 1 = .ok (.invokespecial 3, 3) := by decide +kernel
theorem dX7_init_4 : decode cX7_init 4 = .ok (.aload_n 0, 1) := by decide +kernel
theorem dX7_init_5 : decode cX7_init 5 = .ok (.sipush 216, 3) := by decide +kernel
theorem dX7_init_8 : decode cX7_init 8 = .ok (.newarray .long, 2) := by decide +kernel
theorem dX7_init_10 : decode cX7_init 10 = .ok (.putfield 9, 3) := by decide +kernel
theorem dX7_init_13 : decode cX7_init 13 = .ok (.aload_n 0, 1) := by decide +kernel
theorem dX7_init_14 : decode cX7_init 14 = .ok (.iconst 4, 1) := by decide +kernel
theorem dX7_init_15 : decode cX7_init 15 = .ok (.newarray .long, 2) := by decide +kernel
theorem dX7_init_17 : decode cX7_init 17 = .ok (.putfield 15, 3) := by decide +kernel
theorem dX7_init_20 : decode cX7_init 20 = .ok (.aload_n 0, 1) := by decide +kernel
theorem dX7_init_21 : decode cX7_init 21 = .ok (.bipush 16, 2) := by decide +kernel
theorem dX7_init_23 : decode cX7_init 23 = .ok (.newarray .int, 2) := by decide +kernel
theorem dX7_init_25 : decode cX7_init 25 = .ok (.putfield 18, 3) := by decide +kernel
theorem dX7_init_28 : decode cX7_init 28 = .ok (.aload_n 0, 1) := by decide +kernel
theorem dX7_init_29 : decode cX7_init 29 = .ok (.iconst 4, 1) := by decide +kernel
theorem dX7_init_30 : decode cX7_init 30 = .ok (.newarray .int, 2) := by decide +kernel
theorem dX7_init_32 : decode cX7_init 32 = .ok (.putfield 22, 3) := by decide +kernel
theorem dX7_init_35 : decode cX7_init 35 = .ok (.aload_n 0, 1) := by decide +kernel
theorem dX7_init_36 : decode cX7_init 36 = .ok (.iconst 4, 1) := by decide +kernel
theorem dX7_init_37 : decode cX7_init 37 = .ok (.newarray .long, 2) := by decide +kernel
theorem dX7_init_39 : decode cX7_init 39 = .ok (.putfield 25, 3) := by decide +kernel
theorem dX7_init_42 : decode cX7_init 42 = .ok (.aload_n 0, 1) := by decide +kernel
theorem dX7_init_43 : decode cX7_init 43 = .ok (.bipush 10, 2) := by decide +kernel
theorem dX7_init_45 : decode cX7_init 45 = .ok (.newarray .long, 2) := by decide +kernel
theorem dX7_init_47 : decode cX7_init 47 = .ok (.putfield 28, 3) := by decide +kernel
theorem dX7_init_50 : decode cX7_init 50 = .ok (.aload_n 0, 1) := by decide +kernel
theorem dX7_init_51 : decode cX7_init 51 = .ok (.bipush 10, 2) := by decide +kernel
theorem dX7_init_53 : decode cX7_init 53 = .ok (.newarray .int, 2) := by decide +kernel
theorem dX7_init_55 : decode cX7_init 55 = .ok (.putfield 31, 3) := by decide +kernel
theorem dX7_init_58 : decode cX7_init 58 = .ok (.aload_n 0, 1) := by decide +kernel
theorem dX7_init_59 : decode cX7_init 59 = .ok (.bipush 10, 2) := by decide +kernel
theorem dX7_init_61 : decode cX7_init 61 = .ok (.newarray .int, 2) := by decide +kernel
theorem dX7_init_63 : decode cX7_init 63 = .ok (.putfield 34, 3) := by decide +kernel
theorem dX7_init_66 : decode cX7_init 66 = .ok (.aload_n 0, 1) := by decide +kernel
theorem dX7_init_67 : decode cX7_init 67 = .ok (.iconst 4, 1) := by decide +kernel
theorem dX7_init_68 : decode cX7_init 68 = .ok (.newarray .int, 2) := by decide +kernel
theorem dX7_init_70 : decode cX7_init 70 = .ok (.putfield 37, 3) := by decide +kernel
theorem dX7_init_73 : decode cX7_init 73 = .ok (.aload_n 0, 1) := by decide +kernel
theorem dX7_init_74 : decode cX7_init 74 = .ok (.iconst 4, 1) := by decide +kernel
theorem dX7_init_75 : decode cX7_init 75 = .ok (.newarray .long, 2) := by decide +kernel
theorem dX7_init_77 : decode cX7_init 77 = .ok (.putfield 40, 3) := by decide +kernel
theorem dX7_init_80 : decode cX7_init 80 = .ok (.aload_n 0, 1) := by decide +kernel
theorem dX7_init_81 : decode cX7_init 81 = .ok (.iconst 5, 1) := by decide +kernel
theorem dX7_init_82 : decode cX7_init 82 = .ok (.newarray .int, 2) := by decide +kernel
theorem dX7_init_84 : decode cX7_init 84 = .ok (.putfield 43, 3) := by decide +kernel
theorem dX7_init_87 : decode cX7_init 87 = .ok (.aload_n 0, 1) := by decide +kernel
theorem dX7_init_88 : decode cX7_init 88 = .ok (.aload_n 1, 1) := by decide +kernel
theorem dX7_init_89 : decode cX7_init 89 = .ok (.putfield 46, 3) := by decide +kernel
theorem dX7_init_92 : decode cX7_init 92 = .ok (.iconst 0, 1) := by decide +kernel
theorem dX7_init_93 : decode cX7_init 93 = .ok (.istore_n 2, 1) := by decide +kernel
theorem dX7_init_94 : decode cX7_init 94 = .ok (.iload_n 2, 1) := by decide +kernel
theorem dX7_init_95 : decode cX7_init 95 = .ok (.bipush 36, 2) := by decide +kernel
theorem dX7_init_97 : decode cX7_init 97 = .ok (.if_icmp .ge 47, 3) := by decide +kernel
theorem dX7_init_100 : decode cX7_init 100 = .ok (.lconst 1, 1) := by decide +kernel
theorem dX7_init_101 : decode cX7_init 101 = .ok (.iload_n 2, 1) := by decide +kernel
theorem dX7_init_102 : decode cX7_init 102 = .ok (.lshl, 1) := by decide +kernel
theorem dX7_init_103 : decode cX7_init 103 = .ok (.lstore_n 3, 1) := by decide +kernel
theorem dX7_init_104 : decode cX7_init 104 = .ok (.iconst 1, 1) := by decide +kernel
theorem dX7_init_105 : decode cX7_init 105 = .ok (.istore 5, 2) := by decide +kernel
theorem dX7_init_107 : decode cX7_init 107 = .ok (.iload 5, 2) := by decide +kernel
theorem dX7_init_109 : decode cX7_init 109 = .ok (.bipush 6, 2) := by decide +kernel
theorem dX7_init_111 : decode cX7_init 111 = .ok (.if_icmp .ge 27, 3) := by decide +kernel
theorem dX7_init_114 : decode cX7_init 114 = .ok (.aload_n 0, 1) := by decide +kernel
theorem dX7_init_115 : decode cX7_init 115 = .ok (.getfield 9, 3) := by decide +kernel
theorem dX7_init_118 : decode cX7_init 118 = .ok (.iload 5, 2) := by decide +kernel
theorem dX7_init_120 : decode cX7_init 120 = .ok (.bipush 36, 2) := by decide +kernel
theorem dX7_init_122 : decode cX7_init 122 = .ok (.imul, 1) := by decide +kernel
theorem dX7_init_123 : decode cX7_init 123 = .ok (.iload_n 2, 1) := by decide +kernel
theorem dX7_init_124 : decode cX7_init 124 = .ok (.iadd, 1) := by decide +kernel
theorem dX7_init_125 : decode cX7_init 125 = .ok (.lload_n 3, 1) := by decide +kernel
theorem dX7_init_126 : decode cX7_init 126 = .ok (.lastore, 1) := by decide +kernel
theorem dX7_init_127 : decode cX7_init 127 = .ok (.lload_n 3, 1) := by decide +kernel
theorem dX7_init_128 : decode cX7_init 128 = .ok (.invokestatic 50, 3) := by decide +kernel
theorem dX7_init_131 : decode cX7_init 131 = .ok (.lstore_n 3, 1) := by decide +kernel
theorem dX7_init_132 : decode cX7_init 132 = .ok (.iinc 5 1, 3) := by decide +kernel
theorem dX7_init_135 : decode cX7_init 135 = .ok (.goto (-28), 3) := by decide +kernel
theorem dX7_init_138 : decode cX7_init 138 = .ok (.iinc 2 1, 3) := by decide +kernel
theorem dX7_init_141 : decode cX7_init 141 = .ok (.goto (-47), 3) := by decide +kernel
theorem dX7_init_144 : decode cX7_init 144 = .ok (.return_, 1) := by decide +kernel
theorem dX7_prepare_0 : decode cX7_prepare 0 = .ok (.aload_n 0, 1) := by decide +kernel
theorem dX7_prepare_1 : decode cX7_prepare 1 = .ok (.getfield 46, 3) := by decide +kernel
theorem dX7_prepare_4 : decode cX7_prepare 4 = .ok (.getfield 56, 3) := by decide +kernel
theorem dX7_prepare_7 : decode cX7_prepare 7 = .ok (.astore_n 2, 1) := by decide +kernel
theorem dX7_prepare_8 : decode cX7_prepare 8 = .ok (.aload_n 0, 1) := by decide +kernel
theorem dX7_prepare_9 : decode cX7_prepare 9 = .ok (.iconst 0, 1) := by decide +kernel
theorem dX7_prepare_10 : decode cX7_prepare 10 = .ok (.putfield 62, 3) := by decide +kernel
theorem dX7_prepare_13 : decode cX7_prepare 13 = .ok (.iconst 0, 1) := by decide +kernel
theorem dX7_prepare_14 : decode cX7_prepare 14 = .ok (.istore_n 3, 1) := by decide +kernel
theorem dX7_prepare_15 : decode cX7_prepare 15 = .ok (.iload_n 3, 1) := by decide +kernel
theorem dX7_prepare_16 : decode cX7_prepare 16 = .ok (.aload_n 2, 1) := by decide +kernel
theorem dX7_prepare_17 : decode cX7_prepare 17 = .ok (.getfield 66, 3) := by decide +kernel
theorem dX7_prepare_20 : decode cX7_prepare 20 = .ok (.if_icmp .ge 57, 3) := by decide +kernel
theorem dX7_prepare_23 : decode cX7_prepare 23 = .ok (.iconst 0, 1) := by decide +kernel
theorem dX7_prepare_24 : decode cX7_prepare 24 = .ok (.istore 4, 2) := by decide +kernel
theorem dX7_prepare_26 : decode cX7_prepare 26 = .ok (.iload 4, 2) := by decide +kernel
theorem dX7_prepare_28 : decode cX7_prepare 28 = .ok (.aload_n 2, 1) := by decide +kernel
theorem dX7_prepare_29 : decode cX7_prepare 29 = .ok (.getfield 71, 3) := by decide +kernel
theorem dX7_prepare_32 : decode cX7_prepare 32 = .ok (.iload_n 3, 1) := by decide +kernel
theorem dX7_prepare_33 : decode cX7_prepare 33 = .ok (.iaload, 1) := by decide +kernel
theorem dX7_prepare_34 : decode cX7_prepare 34 = .ok (.if_icmp .ge 37, 3) := by decide +kernel
theorem dX7_prepare_37 : decode cX7_prepare 37 = .ok (.aload_n 0, 1) := by decide +kernel
theorem dX7_prepare_38 : decode cX7_prepare 38 = .ok (.getfield 62, 3) := by decide +kernel
theorem dX7_prepare_41 : decode cX7_prepare 41 = .ok (.iconst 4, 1) := by decide +kernel
theorem dX7_prepare_42 : decode cX7_prepare 42 = .ok (.if_icmp .ge 29, 3) := by decide +kernel
theorem dX7_prepare_45 : decode cX7_prepare 45 = .ok (.aload_n 0, 1) := by decide +kernel
theorem dX7_prepare_46 : decode cX7_prepare 46 = .ok (.getfield 22, 3) := by decide +kernel
theorem dX7_prepare_49 : decode cX7_prepare 49 = .ok (.aload_n 0, 1) := by decide +kernel
theorem dX7_prepare_50 : decode cX7_prepare 50 = .ok (.getfield 62, 3) := by decide +kernel
theorem dX7_prepare_53 : decode cX7_prepare 53 = .ok (.iload_n 3, 1) := by decide +kernel
theorem dX7_prepare_54 : decode cX7_prepare 54 = .ok (.iastore, 1) := by decide +kernel
theorem dX7_prepare_55 : decode cX7_prepare 55 = .ok (.aload_n 0, 1) := by decide +kernel
theorem dX7_prepare_56 : decode cX7_prepare 56 = .ok (.dup, 1) := by decide +kernel
theorem dX7_prepare_57 : decode cX7_prepare 57 = .ok (.getfield 62, 3) := by decide +kernel
theorem dX7_prepare_60 : decode cX7_prepare 60 = .ok (.iconst 1, 1) := by decide +kernel
theorem dX7_prepare_61 : decode cX7_prepare 61 = .ok (.iadd, 1) := by decide +kernel
theorem dX7_prepare_62 : decode cX7_prepare 62 = .ok (.putfield 62, 3) := by decide +kernel
theorem dX7_prepare_65 : decode cX7_prepare 65 = .ok (.iinc 4 1, 3) := by decide +kernel
theorem dX7_prepare_68 : decode cX7_prepare 68 = .ok (.goto (-42), 3) := by decide +kernel
theorem dX7_prepare_71 : decode cX7_prepare 71 = .ok (.iinc 3 1, 3) := by decide +kernel
theorem dX7_prepare_74 : decode cX7_prepare 74 = .ok (.goto (-59), 3) := by decide +kernel
theorem dX7_prepare_77 : decode cX7_prepare 77 = .ok (.aload_n 0, 1) := by decide +kernel
theorem dX7_prepare_78 : decode cX7_prepare 78 = .ok (.getfield 15, 3) := by decide +kernel
theorem dX7_prepare_81 : decode cX7_prepare 81 = .ok (.lconst 0, 1) := by decide +kernel
theorem dX7_prepare_82 : decode cX7_prepare 82 = .ok (.invokestatic 74, 3) := by decide +kernel
theorem dX7_prepare_85 : decode cX7_prepare 85 = .ok (.aload_n 0, 1) := by decide +kernel
theorem dX7_prepare_86 : decode cX7_prepare 86 = .ok (.getfield 18, 3) := by decide +kernel
theorem dX7_prepare_89 : decode cX7_prepare 89 = .ok (.iconst 1, 1) := by decide +kernel
theorem dX7_prepare_90 : decode cX7_prepare 90 = .ok (.invokestatic 80, 3) := by decide +kernel
theorem dX7_prepare_93 : decode cX7_prepare 93 = .ok (.aload_n 1, 1) := by decide +kernel
theorem dX7_prepare_94 : decode cX7_prepare 94 = .ok (.ifnull 72, 3) := by decide +kernel
theorem dX7_prepare_97 : decode cX7_prepare 97 = .ok (.aload_n 1, 1) := by decide +kernel
theorem dX7_prepare_98 : decode cX7_prepare 98 = .ok (.aload_n 2, 1) := by decide +kernel
theorem dX7_prepare_99 : decode cX7_prepare 99 = .ok (.aload_n 0, 1) := by decide +kernel
theorem dX7_prepare_100 : decode cX7_prepare 100 = .ok (.getfield 15, 3) := by decide +kernel
theorem dX7_prepare_103 : decode cX7_prepare 103 = .ok (.invokevirtual 83, 3) := by decide +kernel
theorem dX7_prepare_106 : decode cX7_prepare 106 = .ok (.iconst 0, 1) := by decide +kernel
theorem dX7_prepare_107 : decode cX7_prepare 107 = .ok (.istore_n 3, 1) := by decide +kernel
theorem dX7_prepare_108 : decode cX7_prepare 108 = .ok (.iload_n 3, 1) := by decide +kernel
theorem dX7_prepare_109 : decode cX7_prepare 109 = .ok (.aload_n 1, 1) := by decide +kernel
theorem dX7_prepare_110 : decode cX7_prepare 110 = .ok (.getfield 89, 3) := by decide +kernel
theorem dX7_prepare_113 : decode cX7_prepare 113 = .ok (.if_icmp .ge 53, 3) := by decide +kernel
theorem dX7_prepare_116 : decode cX7_prepare 116 = .ok (.aload_n 0, 1) := by decide +kernel
theorem dX7_prepare_117 : decode cX7_prepare 117 = .ok (.aload_n 1, 1) := by decide +kernel
theorem dX7_prepare_118 : decode cX7_prepare 118 = .ok (.getfield 92, 3) := by decide +kernel
theorem dX7_prepare_121 : decode cX7_prepare 121 = .ok (.iload_n 3, 1) := by decide +kernel
theorem dX7_prepare_122 : decode cX7_prepare 122 = .ok (.iaload, 1) := by decide +kernel
theorem dX7_prepare_123 : decode cX7_prepare 123 = .ok (.aload_n 1, 1) := by decide +kernel
theorem dX7_prepare_124 : decode cX7_prepare 124 = .ok (.getfield 95, 3) := by decide +kernel
theorem dX7_prepare_127 : decode cX7_prepare 127 = .ok (.iload_n 3, 1) := by decide +kernel
theorem dX7_prepare_128 : decode cX7_prepare 128 = .ok (.iaload, 1) := by decide +kernel
theorem dX7_prepare_129 : decode cX7_prepare 129 = .ok (.aload_n 1, 1) := by decide +kernel
theorem dX7_prepare_130 : decode cX7_prepare 130 = .ok (.getfield 98, 3) := by decide +kernel
theorem dX7_prepare_133 : decode cX7_prepare 133 = .ok (.iload_n 3, 1) := by decide +kernel
theorem dX7_prepare_134 : decode cX7_prepare 134 = .ok (.iaload, 1) := by decide +kernel
theorem dX7_prepare_135 : decode cX7_prepare 135 = .ok (.invokevirtual 101, 3) := by decide +kernel
theorem dX7_prepare_138 : decode cX7_prepare 138 = .ok (.aload_n 0, 1) := by decide +kernel
theorem dX7_prepare_139 : decode cX7_prepare 139 = .ok (.aload_n 1, 1) := by decide +kernel
theorem dX7_prepare_140 : decode cX7_prepare 140 = .ok (.getfield 95, 3) := by decide +kernel
theorem dX7_prepare_143 : decode cX7_prepare 143 = .ok (.iload_n 3, 1) := by decide +kernel
theorem dX7_prepare_144 : decode cX7_prepare 144 = .ok (.iaload, 1) := by decide +kernel
theorem dX7_prepare_145 : decode cX7_prepare 145 = .ok (.aload_n 1, 1) := by decide +kernel
theorem dX7_prepare_146 : decode cX7_prepare 146 = .ok (.getfield 92, 3) := by decide +kernel
theorem dX7_prepare_149 : decode cX7_prepare 149 = .ok (.iload_n 3, 1) := by decide +kernel
theorem dX7_prepare_150 : decode cX7_prepare 150 = .ok (.iaload, 1) := by decide +kernel
theorem dX7_prepare_151 : decode cX7_prepare 151 = .ok (.aload_n 1, 1) := by decide +kernel
theorem dX7_prepare_152 : decode cX7_prepare 152 = .ok (.getfield 98, 3) := by decide +kernel
theorem dX7_prepare_155 : decode cX7_prepare 155 = .ok (.iload_n 3, 1) := by decide +kernel
theorem dX7_prepare_156 : decode cX7_prepare 156 = .ok (.iaload, 1) := by decide +kernel
theorem dX7_prepare_157 : decode cX7_prepare 157 = .ok (.invokevirtual 101, 3) := by decide +kernel
theorem dX7_prepare_160 : decode cX7_prepare 160 = .ok (.iinc 3 1, 3) := by decide +kernel
theorem dX7_prepare_163 : decode cX7_prepare 163 = .ok (.goto (-55), 3) := by decide +kernel
theorem dX7_prepare_166 : decode cX7_prepare 166 = .ok (.return_, 1) := by decide +kernel
theorem dX7_keepApart_0 : decode cX7_keepApart 0 = .ok (.iload_n 1, 1) := by decide +kernel
theorem dX7_keepApart_1 : decode cX7_keepApart 1 = .ok (.iconst 4, 1) := by decide +kernel
theorem dX7_keepApart_2 : decode cX7_keepApart 2 = .ok (.imul, 1) := by decide +kernel
theorem dX7_keepApart_3 : decode cX7_keepApart 3 = .ok (.iload_n 2, 1) := by decide +kernel
theorem dX7_keepApart_4 : decode cX7_keepApart 4 = .ok (.iadd, 1) := by decide +kernel
theorem dX7_keepApart_5 : decode cX7_keepApart 5 = .ok (.istore 4, 2) := by decide +kernel
theorem dX7_keepApart_7 : decode cX7_keepApart 7 = .ok (.aload_n 0, 1) := by decide +kernel
theorem dX7_keepApart_8 : decode cX7_keepApart 8 = .ok (.getfield 18, 3) := by decide +kernel
theorem dX7_keepApart_11 : decode cX7_keepApart 11 = .ok (.iload 4, 2) := by decide +kernel
theorem dX7_keepApart_13 : decode cX7_keepApart 13 = .ok (.aload_n 0, 1) := by decide +kernel
theorem dX7_keepApart_14 : decode cX7_keepApart 14 = .ok (.getfield 18, 3) := by decide +kernel
theorem dX7_keepApart_17 : decode cX7_keepApart 17 = .ok (.iload 4, 2) := by decide +kernel
theorem dX7_keepApart_19 : decode cX7_keepApart 19 = .ok (.iaload, 1) := by decide +kernel
theorem dX7_keepApart_20 : decode cX7_keepApart 20 = .ok (.iload_n 3, 1) := by decide +kernel
theorem dX7_keepApart_21 : decode cX7_keepApart 21 = .ok (.invokestatic 105, 3) := by decide +kernel
theorem dX7_keepApart_24 : decode cX7_keepApart 24 = .ok (.iastore, 1) := by decide +kernel
theorem dX7_keepApart_25 : decode cX7_keepApart 25 = .ok (.return_, 1) := by decide +kernel
theorem dX7_barredAt_0 : decode cX7_barredAt 0 = .ok (.iconst 0, 1) := by decide +kernel
theorem dX7_barredAt_1 : decode cX7_barredAt 1 = .ok (.istore_n 2, 1) := by decide +kernel
theorem dX7_barredAt_2 : decode cX7_barredAt 2 = .ok (.iconst 0, 1) := by decide +kernel
theorem dX7_barredAt_3 : decode cX7_barredAt 3 = .ok (.istore_n 3, 1) := by decide +kernel
theorem dX7_barredAt_4 : decode cX7_barredAt 4 = .ok (.iload_n 3, 1) := by decide +kernel
theorem dX7_barredAt_5 : decode cX7_barredAt 5 = .ok (.aload_n 0, 1) := by decide +kernel
theorem dX7_barredAt_6 : decode cX7_barredAt 6 = .ok (.getfield 46, 3) := by decide +kernel
theorem dX7_barredAt_9 : decode cX7_barredAt 9 = .ok (.getfield 56, 3) := by decide +kernel
theorem dX7_barredAt_12 : decode cX7_barredAt 12 = .ok (.getfield 66, 3) := by decide +kernel
theorem dX7_barredAt_15 : decode cX7_barredAt 15 = .ok (.if_icmp .ge 25, 3) := by decide +kernel
theorem dX7_barredAt_18 : decode cX7_barredAt 18 = .ok (.iload_n 2, 1) := by decide +kernel
theorem dX7_barredAt_19 : decode cX7_barredAt 19 = .ok (.aload_n 0, 1) := by decide +kernel
theorem dX7_barredAt_20 : decode cX7_barredAt 20 = .ok (.getfield 15, 3) := by decide +kernel
theorem dX7_barredAt_23 : decode cX7_barredAt 23 = .ok (.iload_n 3, 1) := by decide +kernel
theorem dX7_barredAt_24 : decode cX7_barredAt 24 = .ok (.laload, 1) := by decide +kernel
theorem dX7_barredAt_25 : decode cX7_barredAt 25 = .ok (.iload_n 1, 1) := by decide +kernel
theorem dX7_barredAt_26 : decode cX7_barredAt 26 = .ok (.lushr, 1) := by decide +kernel
theorem dX7_barredAt_27 : decode cX7_barredAt 27 = .ok (.lconst 1, 1) := by decide +kernel
theorem dX7_barredAt_28 : decode cX7_barredAt 28 = .ok (.land, 1) := by decide +kernel
theorem dX7_barredAt_29 : decode cX7_barredAt 29 = .ok (.l2i, 1) := by decide +kernel
theorem dX7_barredAt_30 : decode cX7_barredAt 30 = .ok (.iload_n 3, 1) := by decide +kernel
theorem dX7_barredAt_31 : decode cX7_barredAt 31 = .ok (.ishl, 1) := by decide +kernel
theorem dX7_barredAt_32 : decode cX7_barredAt 32 = .ok (.ior, 1) := by decide +kernel
theorem dX7_barredAt_33 : decode cX7_barredAt 33 = .ok (.istore_n 2, 1) := by decide +kernel
theorem dX7_barredAt_34 : decode cX7_barredAt 34 = .ok (.iinc 3 1, 3) := by decide +kernel
theorem dX7_barredAt_37 : decode cX7_barredAt 37 = .ok (.goto (-33), 3) := by decide +kernel
theorem dX7_barredAt_40 : decode cX7_barredAt 40 = .ok (.iload_n 2, 1) := by decide +kernel
theorem dX7_barredAt_41 : decode cX7_barredAt 41 = .ok (.ireturn, 1) := by decide +kernel
theorem dX7_start_0 : decode cX7_start 0 = .ok (.aload_n 0, 1) := by decide +kernel
theorem dX7_start_1 : decode cX7_start 1 = .ok (.getfield 46, 3) := by decide +kernel
theorem dX7_start_4 : decode cX7_start 4 = .ok (.getfield 56, 3) := by decide +kernel
theorem dX7_start_7 : decode cX7_start 7 = .ok (.astore_n 2, 1) := by decide +kernel
theorem dX7_start_8 : decode cX7_start 8 = .ok (.aload_n 0, 1) := by decide +kernel
theorem dX7_start_9 : decode cX7_start 9 = .ok (.iconst 0, 1) := by decide +kernel
theorem dX7_start_10 : decode cX7_start 10 = .ok (.putfield 111, 3) := by decide +kernel
theorem dX7_start_13 : decode cX7_start 13 = .ok (.aload_n 0, 1) := by decide +kernel
theorem dX7_start_14 : decode cX7_start 14 = .ok (.iconst 0, 1) := by decide +kernel
theorem dX7_start_15 : decode cX7_start 15 = .ok (.putfield 115, 3) := by decide +kernel
theorem dX7_start_18 : decode cX7_start 18 = .ok (.aload_n 0, 1) := by decide +kernel
theorem dX7_start_19 : decode cX7_start 19 = .ok (.iconst 0, 1) := by decide +kernel
theorem dX7_start_20 : decode cX7_start 20 = .ok (.putfield 118, 3) := by decide +kernel
theorem dX7_start_23 : decode cX7_start 23 = .ok (.iconst 0, 1) := by decide +kernel
theorem dX7_start_24 : decode cX7_start 24 = .ok (.istore_n 3, 1) := by decide +kernel
theorem dX7_start_25 : decode cX7_start 25 = .ok (.iload_n 3, 1) := by decide +kernel
theorem dX7_start_26 : decode cX7_start 26 = .ok (.iconst 4, 1) := by decide +kernel
theorem dX7_start_27 : decode cX7_start 27 = .ok (.if_icmp .ge 30, 3) := by decide +kernel
theorem dX7_start_30 : decode cX7_start 30 = .ok (.aload_n 0, 1) := by decide +kernel
theorem dX7_start_31 : decode cX7_start 31 = .ok (.getfield 25, 3) := by decide +kernel
theorem dX7_start_34 : decode cX7_start 34 = .ok (.iload_n 3, 1) := by decide +kernel
theorem dX7_start_35 : decode cX7_start 35 = .ok (.aload_n 2, 1) := by decide +kernel
theorem dX7_start_36 : decode cX7_start 36 = .ok (.invokevirtual 121, 3) := by decide +kernel
theorem dX7_start_39 : decode cX7_start 39 = .ok (.aload_n 0, 1) := by decide +kernel
theorem dX7_start_40 : decode cX7_start 40 = .ok (.getfield 15, 3) := by decide +kernel
theorem dX7_start_43 : decode cX7_start 43 = .ok (.iload_n 3, 1) := by decide +kernel
theorem dX7_start_44 : decode cX7_start 44 = .ok (.laload, 1) := by decide +kernel
theorem dX7_start_45 : decode cX7_start 45 = .ok (.ldc2_w 125, 3) := by decide +kernel
theorem dX7_start_48 : decode cX7_start 48 = .ok (.lxor, 1) := by decide +kernel
theorem dX7_start_49 : decode cX7_start 49 = .ok (.land, 1) := by decide +kernel
theorem dX7_start_50 : decode cX7_start 50 = .ok (.lastore, 1) := by decide +kernel
theorem dX7_start_51 : decode cX7_start 51 = .ok (.iinc 3 1, 3) := by decide +kernel
theorem dX7_start_54 : decode cX7_start 54 = .ok (.goto (-29), 3) := by decide +kernel
theorem dX7_start_57 : decode cX7_start 57 = .ok (.iconst 0, 1) := by decide +kernel
theorem dX7_start_58 : decode cX7_start 58 = .ok (.istore_n 3, 1) := by decide +kernel
theorem dX7_start_59 : decode cX7_start 59 = .ok (.iload_n 3, 1) := by decide +kernel
theorem dX7_start_60 : decode cX7_start 60 = .ok (.aload_n 0, 1) := by decide +kernel
theorem dX7_start_61 : decode cX7_start 61 = .ok (.getfield 46, 3) := by decide +kernel
theorem dX7_start_64 : decode cX7_start 64 = .ok (.getfield 127, 3) := by decide +kernel
theorem dX7_start_67 : decode cX7_start 67 = .ok (.if_icmp .ge 45, 3) := by decide +kernel
theorem dX7_start_70 : decode cX7_start 70 = .ok (.iload_n 1, 1) := by decide +kernel
theorem dX7_start_71 : decode cX7_start 71 = .ok (.iload_n 3, 1) := by decide +kernel
theorem dX7_start_72 : decode cX7_start 72 = .ok (.ishr, 1) := by decide +kernel
theorem dX7_start_73 : decode cX7_start 73 = .ok (.iconst 1, 1) := by decide +kernel
theorem dX7_start_74 : decode cX7_start 74 = .ok (.iand, 1) := by decide +kernel
theorem dX7_start_75 : decode cX7_start 75 = .ok (.ifCond .eq 31, 3) := by decide +kernel
theorem dX7_start_78 : decode cX7_start 78 = .ok (.aload_n 0, 1) := by decide +kernel
theorem dX7_start_79 : decode cX7_start 79 = .ok (.aload_n 0, 1) := by decide +kernel
theorem dX7_start_80 : decode cX7_start 80 = .ok (.getfield 46, 3) := by decide +kernel
theorem dX7_start_83 : decode cX7_start 83 = .ok (.iload_n 3, 1) := by decide +kernel
theorem dX7_start_84 : decode cX7_start 84 = .ok (.invokevirtual 130, 3) := by decide +kernel
theorem dX7_start_87 : decode cX7_start 87 = .ok (.aload_n 0, 1) := by decide +kernel
theorem dX7_start_88 : decode cX7_start 88 = .ok (.getfield 46, 3) := by decide +kernel
theorem dX7_start_91 : decode cX7_start 91 = .ok (.iload_n 3, 1) := by decide +kernel
theorem dX7_start_92 : decode cX7_start 92 = .ok (.invokevirtual 133, 3) := by decide +kernel
theorem dX7_start_95 : decode cX7_start 95 = .ok (.aload_n 0, 1) := by decide +kernel
theorem dX7_start_96 : decode cX7_start 96 = .ok (.getfield 46, 3) := by decide +kernel
theorem dX7_start_99 : decode cX7_start 99 = .ok (.iload_n 3, 1) := by decide +kernel
theorem dX7_start_100 : decode cX7_start 100 = .ok (.invokevirtual 135, 3) := by decide +kernel
theorem dX7_start_103 : decode cX7_start 103 = .ok (.invokevirtual 138, 3) := by decide +kernel
theorem dX7_start_106 : decode cX7_start 106 = .ok (.iinc 3 1, 3) := by decide +kernel
theorem dX7_start_109 : decode cX7_start 109 = .ok (.goto (-50), 3) := by decide +kernel
theorem dX7_start_112 : decode cX7_start 112 = .ok (.aload_n 0, 1) := by decide +kernel
theorem dX7_start_113 : decode cX7_start 113 = .ok (.getfield 111, 3) := by decide +kernel
theorem dX7_start_116 : decode cX7_start 116 = .ok (.ifCond .eq 13, 3) := by decide +kernel
theorem dX7_start_119 : decode cX7_start 119 = .ok (.aload_n 0, 1) := by decide +kernel
theorem dX7_start_120 : decode cX7_start 120 = .ok (.getfield 40, 3) := by decide +kernel
theorem dX7_start_123 : decode cX7_start 123 = .ok (.iconst 0, 1) := by decide +kernel
theorem dX7_start_124 : decode cX7_start 124 = .ok (.lconst 0, 1) := by decide +kernel
theorem dX7_start_125 : decode cX7_start 125 = .ok (.lastore, 1) := by decide +kernel
theorem dX7_start_126 : decode cX7_start 126 = .ok (.goto 27, 3) := by decide +kernel
theorem dX7_start_129 : decode cX7_start 129 = .ok (.aload_n 0, 1) := by decide +kernel
theorem dX7_start_130 : decode cX7_start 130 = .ok (.getfield 40, 3) := by decide +kernel
theorem dX7_start_133 : decode cX7_start 133 = .ok (.iconst 0, 1) := by decide +kernel
theorem dX7_start_134 : decode cX7_start 134 = .ok (.aload_n 0, 1) := by decide +kernel
theorem dX7_start_135 : decode cX7_start 135 = .ok (.getfield 62, 3) := by decide +kernel
theorem dX7_start_138 : decode cX7_start 138 = .ok (.ifCond .ne 9, 3) := by decide +kernel
theorem dX7_start_141 : decode cX7_start 141 = .ok (.ldc2_w 142, 3) := by decide +kernel
theorem dX7_start_144 : decode cX7_start 144 = .ok (.goto 8, 3) := by decide +kernel
theorem dX7_start_147 : decode cX7_start 147 = .ok (.aload_n 0, 1) := by decide +kernel
theorem dX7_start_148 : decode cX7_start 148 = .ok (.iconst 0, 1) := by decide +kernel
theorem dX7_start_149 : decode cX7_start 149 = .ok (.invokevirtual 144, 3) := by decide +kernel
theorem dX7_start_152 : decode cX7_start 152 = .ok (.lastore, 1) := by decide +kernel
theorem dX7_start_153 : decode cX7_start 153 = .ok (.return_, 1) := by decide +kernel
theorem dX7_heed_0 : decode cX7_heed 0 = .ok (.aload_n 0, 1) := by decide +kernel
theorem dX7_heed_1 : decode cX7_heed 1 = .ok (.getfield 46, 3) := by decide +kernel
theorem dX7_heed_4 : decode cX7_heed 4 = .ok (.getfield 56, 3) := by decide +kernel
theorem dX7_heed_7 : decode cX7_heed 7 = .ok (.getfield 71, 3) := by decide +kernel
theorem dX7_heed_10 : decode cX7_heed 10 = .ok (.iload_n 1, 1) := by decide +kernel
theorem dX7_heed_11 : decode cX7_heed 11 = .ok (.iaload, 1) := by decide +kernel
theorem dX7_heed_12 : decode cX7_heed 12 = .ok (.istore 5, 2) := by decide +kernel
theorem dX7_heed_14 : decode cX7_heed 14 = .ok (.iload_n 2, 1) := by decide +kernel
theorem dX7_heed_15 : decode cX7_heed 15 = .ok (.ifCond .ne 20, 3) := by decide +kernel
theorem dX7_heed_18 : decode cX7_heed 18 = .ok (.aload_n 0, 1) := by decide +kernel
theorem dX7_heed_19 : decode cX7_heed 19 = .ok (.getfield 25, 3) := by decide +kernel
theorem dX7_heed_22 : decode cX7_heed 22 = .ok (.iload_n 1, 1) := by decide +kernel
theorem dX7_heed_23 : decode cX7_heed 23 = .ok (.dup2, 1) := by decide +kernel
theorem dX7_heed_24 : decode cX7_heed 24 = .ok (.laload, 1) := by decide +kernel
theorem dX7_heed_25 : decode cX7_heed 25 = .ok (.lload_n 3, 1) := by decide +kernel
theorem dX7_heed_26 : decode cX7_heed 26 = .ok (.ldc2_w 125, 3) := by decide +kernel
theorem dX7_heed_29 : decode cX7_heed 29 = .ok (.lxor, 1) := by decide +kernel
theorem dX7_heed_30 : decode cX7_heed 30 = .ok (.land, 1) := by decide +kernel
theorem dX7_heed_31 : decode cX7_heed 31 = .ok (.lastore, 1) := by decide +kernel
theorem dX7_heed_32 : decode cX7_heed 32 = .ok (.goto 75, 3) := by decide +kernel
theorem dX7_heed_35 : decode cX7_heed 35 = .ok (.iload_n 2, 1) := by decide +kernel
theorem dX7_heed_36 : decode cX7_heed 36 = .ok (.ifCond .ge 16, 3) := by decide +kernel
theorem dX7_heed_39 : decode cX7_heed 39 = .ok (.iload 5, 2) := by decide +kernel
theorem dX7_heed_41 : decode cX7_heed 41 = .ok (.ifCond .ne 11, 3) := by decide +kernel
theorem dX7_heed_44 : decode cX7_heed 44 = .ok (.aload_n 0, 1) := by decide +kernel
theorem dX7_heed_45 : decode cX7_heed 45 = .ok (.iconst 1, 1) := by decide +kernel
theorem dX7_heed_46 : decode cX7_heed 46 = .ok (.putfield 111, 3) := by decide +kernel
theorem dX7_heed_49 : decode cX7_heed 49 = .ok (.goto 58, 3) := by decide +kernel
theorem dX7_heed_52 : decode cX7_heed 52 = .ok (.iload_n 2, 1) := by decide +kernel
theorem dX7_heed_53 : decode cX7_heed 53 = .ok (.iload 5, 2) := by decide +kernel
theorem dX7_heed_55 : decode cX7_heed 55 = .ok (.if_icmp .ge 52, 3) := by decide +kernel
theorem dX7_heed_58 : decode cX7_heed 58 = .ok (.aload_n 0, 1) := by decide +kernel
theorem dX7_heed_59 : decode cX7_heed 59 = .ok (.getfield 115, 3) := by decide +kernel
theorem dX7_heed_62 : decode cX7_heed 62 = .ok (.bipush 10, 2) := by decide +kernel
theorem dX7_heed_64 : decode cX7_heed 64 = .ok (.if_icmp .ge 43, 3) := by decide +kernel
theorem dX7_heed_67 : decode cX7_heed 67 = .ok (.aload_n 0, 1) := by decide +kernel
theorem dX7_heed_68 : decode cX7_heed 68 = .ok (.getfield 28, 3) := by decide +kernel
theorem dX7_heed_71 : decode cX7_heed 71 = .ok (.aload_n 0, 1) := by decide +kernel
theorem dX7_heed_72 : decode cX7_heed 72 = .ok (.getfield 115, 3) := by decide +kernel
theorem dX7_heed_75 : decode cX7_heed 75 = .ok (.lload_n 3, 1) := by decide +kernel
theorem dX7_heed_76 : decode cX7_heed 76 = .ok (.lastore, 1) := by decide +kernel
theorem dX7_heed_77 : decode cX7_heed 77 = .ok (.aload_n 0, 1) := by decide +kernel
theorem dX7_heed_78 : decode cX7_heed 78 = .ok (.getfield 31, 3) := by decide +kernel
theorem dX7_heed_81 : decode cX7_heed 81 = .ok (.aload_n 0, 1) := by decide +kernel
theorem dX7_heed_82 : decode cX7_heed 82 = .ok (.getfield 115, 3) := by decide +kernel
theorem dX7_heed_85 : decode cX7_heed 85 = .ok (.iload_n 1, 1) := by decide +kernel
theorem dX7_heed_86 : decode cX7_heed 86 = .ok (.iastore, 1) := by decide +kernel
theorem dX7_heed_87 : decode cX7_heed 87 = .ok (.aload_n 0, 1) := by decide +kernel
theorem dX7_heed_88 : decode cX7_heed 88 = .ok (.getfield 34, 3) := by decide +kernel
theorem dX7_heed_91 : decode cX7_heed 91 = .ok (.aload_n 0, 1) := by decide +kernel
theorem dX7_heed_92 : decode cX7_heed 92 = .ok (.getfield 115, 3) := by decide +kernel
theorem dX7_heed_95 : decode cX7_heed 95 = .ok (.iload_n 2, 1) := by decide +kernel
theorem dX7_heed_96 : decode cX7_heed 96 = .ok (.iastore, 1) := by decide +kernel
theorem dX7_heed_97 : decode cX7_heed 97 = .ok (.aload_n 0, 1) := by decide +kernel
theorem dX7_heed_98 : decode cX7_heed 98 = .ok (.dup, 1) := by decide +kernel
theorem dX7_heed_99 : decode cX7_heed 99 = .ok (.getfield 115, 3) := by decide +kernel
theorem dX7_heed_102 : decode cX7_heed 102 = .ok (.iconst 1, 1) := by decide +kernel
theorem dX7_heed_103 : decode cX7_heed 103 = .ok (.iadd, 1) := by decide +kernel
theorem dX7_heed_104 : decode cX7_heed 104 = .ok (.putfield 115, 3) := by decide +kernel
theorem dX7_heed_107 : decode cX7_heed 107 = .ok (.return_, 1) := by decide +kernel
theorem dX7_step_0 : decode cX7_step 0 = .ok (.aload_n 0, 1) := by decide +kernel
theorem dX7_step_1 : decode cX7_step 1 = .ok (.getfield 62, 3) := by decide +kernel
theorem dX7_step_4 : decode cX7_step 4 = .ok (.iconst 2, 1) := by decide +kernel
theorem dX7_step_5 : decode cX7_step 5 = .ok (.if_icmp .ge 35, 3) := by decide +kernel
theorem dX7_step_8 : decode cX7_step 8 = .ok (.aload_n 0, 1) := by decide +kernel
theorem dX7_step_9 : decode cX7_step 9 = .ok (.aload_n 0, 1) := by decide +kernel
theorem dX7_step_10 : decode cX7_step 10 = .ok (.getfield 40, 3) := by decide +kernel
theorem dX7_step_13 : decode cX7_step 13 = .ok (.iconst 0, 1) := by decide +kernel
theorem dX7_step_14 : decode cX7_step 14 = .ok (.laload, 1) := by decide +kernel
theorem dX7_step_15 : decode cX7_step 15 = .ok (.putfield 147, 3) := by decide +kernel
theorem dX7_step_18 : decode cX7_step 18 = .ok (.aload_n 0, 1) := by decide +kernel
theorem dX7_step_19 : decode cX7_step 19 = .ok (.getfield 40, 3) := by decide +kernel
theorem dX7_step_22 : decode cX7_step 22 = .ok (.iconst 0, 1) := by decide +kernel
theorem dX7_step_23 : decode cX7_step 23 = .ok (.lconst 0, 1) := by decide +kernel
theorem dX7_step_24 : decode cX7_step 24 = .ok (.lastore, 1) := by decide +kernel
theorem dX7_step_25 : decode cX7_step 25 = .ok (.aload_n 0, 1) := by decide +kernel
theorem dX7_step_26 : decode cX7_step 26 = .ok (.getfield 147, 3) := by decide +kernel
theorem dX7_step_29 : decode cX7_step 29 = .ok (.lconst 0, 1) := by decide +kernel
theorem dX7_step_30 : decode cX7_step 30 = .ok (.lcmp, 1) := by decide +kernel
theorem dX7_step_31 : decode cX7_step 31 = .ok (.ifCond .eq 7, 3) := by decide +kernel
theorem dX7_step_34 : decode cX7_step 34 = .ok (.iconst 1, 1) := by decide +kernel
theorem dX7_step_35 : decode cX7_step 35 = .ok (.goto 4, 3) := by decide +kernel
theorem dX7_step_38 : decode cX7_step 38 = .ok (.iconst 0, 1) := by decide +kernel
theorem dX7_step_39 : decode cX7_step 39 = .ok (.ireturn, 1) := by decide +kernel
theorem dX7_step_40 : decode cX7_step 40 = .ok (.iconst 0, 1) := by decide +kernel
theorem dX7_step_41 : decode cX7_step 41 = .ok (.istore_n 1, 1) := by decide +kernel
theorem dX7_step_42 : decode cX7_step 42 = .ok (.iload_n 1, 1) := by decide +kernel
theorem dX7_step_43 : decode cX7_step 43 = .ok (.ldc 151, 2) := by decide +kernel
theorem dX7_step_45 : decode cX7_step 45 = .ok (.if_icmp .ge 136, 3) := by decide +kernel
theorem dX7_step_48 : decode cX7_step 48 = .ok (.aload_n 0, 1) := by decide +kernel
theorem dX7_step_49 : decode cX7_step 49 = .ok (.getfield 118, 3) := by decide +kernel
theorem dX7_step_52 : decode cX7_step 52 = .ok (.ifCond .lt 129, 3) := by decide +kernel
theorem dX7_step_55 : decode cX7_step 55 = .ok (.aload_n 0, 1) := by decide +kernel
theorem dX7_step_56 : decode cX7_step 56 = .ok (.getfield 40, 3) := by decide +kernel
theorem dX7_step_59 : decode cX7_step 59 = .ok (.aload_n 0, 1) := by decide +kernel
theorem dX7_step_60 : decode cX7_step 60 = .ok (.getfield 118, 3) := by decide +kernel
theorem dX7_step_63 : decode cX7_step 63 = .ok (.laload, 1) := by decide +kernel
theorem dX7_step_64 : decode cX7_step 64 = .ok (.lstore_n 2, 1) := by decide +kernel
theorem dX7_step_65 : decode cX7_step 65 = .ok (.lload_n 2, 1) := by decide +kernel
theorem dX7_step_66 : decode cX7_step 66 = .ok (.lconst 0, 1) := by decide +kernel
theorem dX7_step_67 : decode cX7_step 67 = .ok (.lcmp, 1) := by decide +kernel
theorem dX7_step_68 : decode cX7_step 68 = .ok (.ifCond .ne 16, 3) := by decide +kernel
theorem dX7_step_71 : decode cX7_step 71 = .ok (.aload_n 0, 1) := by decide +kernel
theorem dX7_step_72 : decode cX7_step 72 = .ok (.dup, 1) := by decide +kernel
theorem dX7_step_73 : decode cX7_step 73 = .ok (.getfield 118, 3) := by decide +kernel
theorem dX7_step_76 : decode cX7_step 76 = .ok (.iconst 1, 1) := by decide +kernel
theorem dX7_step_77 : decode cX7_step 77 = .ok (.isub, 1) := by decide +kernel
theorem dX7_step_78 : decode cX7_step 78 = .ok (.putfield 118, 3) := by decide +kernel
theorem dX7_step_81 : decode cX7_step 81 = .ok (.goto 94, 3) := by decide +kernel
theorem dX7_step_84 : decode cX7_step 84 = .ok (.aload_n 0, 1) := by decide +kernel
theorem dX7_step_85 : decode cX7_step 85 = .ok (.getfield 37, 3) := by decide +kernel
theorem dX7_step_88 : decode cX7_step 88 = .ok (.aload_n 0, 1) := by decide +kernel
theorem dX7_step_89 : decode cX7_step 89 = .ok (.getfield 118, 3) := by decide +kernel
theorem dX7_step_92 : decode cX7_step 92 = .ok (.lload_n 2, 1) := by decide +kernel
theorem dX7_step_93 : decode cX7_step 93 = .ok (.invokestatic 152, 3) := by decide +kernel
theorem dX7_step_96 : decode cX7_step 96 = .ok (.iastore, 1) := by decide +kernel
theorem dX7_step_97 : decode cX7_step 97 = .ok (.aload_n 0, 1) := by decide +kernel
theorem dX7_step_98 : decode cX7_step 98 = .ok (.getfield 40, 3) := by decide +kernel
theorem dX7_step_101 : decode cX7_step 101 = .ok (.aload_n 0, 1) := by decide +kernel
theorem dX7_step_102 : decode cX7_step 102 = .ok (.getfield 118, 3) := by decide +kernel
theorem dX7_step_105 : decode cX7_step 105 = .ok (.lload_n 2, 1) := by decide +kernel
theorem dX7_step_106 : decode cX7_step 106 = .ok (.lload_n 2, 1) := by decide +kernel
theorem dX7_step_107 : decode cX7_step 107 = .ok (.lconst 1, 1) := by decide +kernel
theorem dX7_step_108 : decode cX7_step 108 = .ok (.lsub, 1) := by decide +kernel
theorem dX7_step_109 : decode cX7_step 109 = .ok (.land, 1) := by decide +kernel
theorem dX7_step_110 : decode cX7_step 110 = .ok (.lastore, 1) := by decide +kernel
theorem dX7_step_111 : decode cX7_step 111 = .ok (.aload_n 0, 1) := by decide +kernel
theorem dX7_step_112 : decode cX7_step 112 = .ok (.aload_n 0, 1) := by decide +kernel
theorem dX7_step_113 : decode cX7_step 113 = .ok (.getfield 118, 3) := by decide +kernel
theorem dX7_step_116 : decode cX7_step 116 = .ok (.iconst 1, 1) := by decide +kernel
theorem dX7_step_117 : decode cX7_step 117 = .ok (.iadd, 1) := by decide +kernel
theorem dX7_step_118 : decode cX7_step 118 = .ok (.invokevirtual 144, 3) := by decide +kernel
theorem dX7_step_121 : decode cX7_step 121 = .ok (.lstore 4, 2) := by decide +kernel
theorem dX7_step_123 : decode cX7_step 123 = .ok (.lload 4, 2) := by decide +kernel
theorem dX7_step_125 : decode cX7_step 125 = .ok (.lconst 0, 1) := by decide +kernel
theorem dX7_step_126 : decode cX7_step 126 = .ok (.lcmp, 1) := by decide +kernel
theorem dX7_step_127 : decode cX7_step 127 = .ok (.ifCond .ne 6, 3) := by decide +kernel
theorem dX7_step_130 : decode cX7_step 130 = .ok (.goto 45, 3) := by decide +kernel
theorem dX7_step_133 : decode cX7_step 133 = .ok (.aload_n 0, 1) := by decide +kernel
theorem dX7_step_134 : decode cX7_step 134 = .ok (.getfield 118, 3) := by decide +kernel
theorem dX7_step_137 : decode cX7_step 137 = .ok (.iconst 2, 1) := by decide +kernel
theorem dX7_step_138 : decode cX7_step 138 = .ok (.iadd, 1) := by decide +kernel
theorem dX7_step_139 : decode cX7_step 139 = .ok (.aload_n 0, 1) := by decide +kernel
theorem dX7_step_140 : decode cX7_step 140 = .ok (.getfield 62, 3) := by decide +kernel
theorem dX7_step_143 : decode cX7_step 143 = .ok (.if_icmp .ne 11, 3) := by decide +kernel
theorem dX7_step_146 : decode cX7_step 146 = .ok (.aload_n 0, 1) := by decide +kernel
theorem dX7_step_147 : decode cX7_step 147 = .ok (.lload 4, 2) := by decide +kernel
theorem dX7_step_149 : decode cX7_step 149 = .ok (.putfield 147, 3) := by decide +kernel
theorem dX7_step_152 : decode cX7_step 152 = .ok (.iconst 1, 1) := by decide +kernel
theorem dX7_step_153 : decode cX7_step 153 = .ok (.ireturn, 1) := by decide +kernel
theorem dX7_step_154 : decode cX7_step 154 = .ok (.aload_n 0, 1) := by decide +kernel
theorem dX7_step_155 : decode cX7_step 155 = .ok (.dup, 1) := by decide +kernel
theorem dX7_step_156 : decode cX7_step 156 = .ok (.getfield 118, 3) := by decide +kernel
theorem dX7_step_159 : decode cX7_step 159 = .ok (.iconst 1, 1) := by decide +kernel
theorem dX7_step_160 : decode cX7_step 160 = .ok (.iadd, 1) := by decide +kernel
theorem dX7_step_161 : decode cX7_step 161 = .ok (.putfield 118, 3) := by decide +kernel
theorem dX7_step_164 : decode cX7_step 164 = .ok (.aload_n 0, 1) := by decide +kernel
theorem dX7_step_165 : decode cX7_step 165 = .ok (.getfield 40, 3) := by decide +kernel
theorem dX7_step_168 : decode cX7_step 168 = .ok (.aload_n 0, 1) := by decide +kernel
theorem dX7_step_169 : decode cX7_step 169 = .ok (.getfield 118, 3) := by decide +kernel
theorem dX7_step_172 : decode cX7_step 172 = .ok (.lload 4, 2) := by decide +kernel
theorem dX7_step_174 : decode cX7_step 174 = .ok (.lastore, 1) := by decide +kernel
theorem dX7_step_175 : decode cX7_step 175 = .ok (.iinc 1 1, 3) := by decide +kernel
theorem dX7_step_178 : decode cX7_step 178 = .ok (.goto (-136), 3) := by decide +kernel
theorem dX7_step_181 : decode cX7_step 181 = .ok (.iconst 0, 1) := by decide +kernel
theorem dX7_step_182 : decode cX7_step 182 = .ok (.ireturn, 1) := by decide +kernel
theorem dX7_room_0 : decode cX7_room 0 = .ok (.aload_n 0, 1) := by decide +kernel
theorem dX7_room_1 : decode cX7_room 1 = .ok (.getfield 22, 3) := by decide +kernel
theorem dX7_room_4 : decode cX7_room 4 = .ok (.iload_n 1, 1) := by decide +kernel
theorem dX7_room_5 : decode cX7_room 5 = .ok (.iaload, 1) := by decide +kernel
theorem dX7_room_6 : decode cX7_room 6 = .ok (.istore_n 2, 1) := by decide +kernel
theorem dX7_room_7 : decode cX7_room 7 = .ok (.aload_n 0, 1) := by decide +kernel
theorem dX7_room_8 : decode cX7_room 8 = .ok (.getfield 25, 3) := by decide +kernel
theorem dX7_room_11 : decode cX7_room 11 = .ok (.iload_n 2, 1) := by decide +kernel
theorem dX7_room_12 : decode cX7_room 12 = .ok (.laload, 1) := by decide +kernel
theorem dX7_room_13 : decode cX7_room 13 = .ok (.lstore_n 3, 1) := by decide +kernel
theorem dX7_room_14 : decode cX7_room 14 = .ok (.lconst 0, 1) := by decide +kernel
theorem dX7_room_15 : decode cX7_room 15 = .ok (.lstore 5, 2) := by decide +kernel
theorem dX7_room_17 : decode cX7_room 17 = .ok (.iconst 0, 1) := by decide +kernel
theorem dX7_room_18 : decode cX7_room 18 = .ok (.istore 7, 2) := by decide +kernel
theorem dX7_room_20 : decode cX7_room 20 = .ok (.iload 7, 2) := by decide +kernel
theorem dX7_room_22 : decode cX7_room 22 = .ok (.iload_n 1, 1) := by decide +kernel
theorem dX7_room_23 : decode cX7_room 23 = .ok (.if_icmp .ge 73, 3) := by decide +kernel
theorem dX7_room_26 : decode cX7_room 26 = .ok (.lload_n 3, 1) := by decide +kernel
theorem dX7_room_27 : decode cX7_room 27 = .ok (.aload_n 0, 1) := by decide +kernel
theorem dX7_room_28 : decode cX7_room 28 = .ok (.getfield 9, 3) := by decide +kernel
theorem dX7_room_31 : decode cX7_room 31 = .ok (.aload_n 0, 1) := by decide +kernel
theorem dX7_room_32 : decode cX7_room 32 = .ok (.getfield 18, 3) := by decide +kernel
theorem dX7_room_35 : decode cX7_room 35 = .ok (.aload_n 0, 1) := by decide +kernel
theorem dX7_room_36 : decode cX7_room 36 = .ok (.getfield 22, 3) := by decide +kernel
theorem dX7_room_39 : decode cX7_room 39 = .ok (.iload 7, 2) := by decide +kernel
theorem dX7_room_41 : decode cX7_room 41 = .ok (.iaload, 1) := by decide +kernel
theorem dX7_room_42 : decode cX7_room 42 = .ok (.iconst 4, 1) := by decide +kernel
theorem dX7_room_43 : decode cX7_room 43 = .ok (.imul, 1) := by decide +kernel
theorem dX7_room_44 : decode cX7_room 44 = .ok (.iload_n 2, 1) := by decide +kernel
theorem dX7_room_45 : decode cX7_room 45 = .ok (.iadd, 1) := by decide +kernel
theorem dX7_room_46 : decode cX7_room 46 = .ok (.iaload, 1) := by decide +kernel
theorem dX7_room_47 : decode cX7_room 47 = .ok (.bipush 36, 2) := by decide +kernel
theorem dX7_room_49 : decode cX7_room 49 = .ok (.imul, 1) := by decide +kernel
theorem dX7_room_50 : decode cX7_room 50 = .ok (.aload_n 0, 1) := by decide +kernel
theorem dX7_room_51 : decode cX7_room 51 = .ok (.getfield 37, 3) := by decide +kernel
theorem dX7_room_54 : decode cX7_room 54 = .ok (.iload 7, 2) := by decide +kernel
theorem dX7_room_56 : decode cX7_room 56 = .ok (.iaload, 1) := by decide +kernel
theorem dX7_room_57 : decode cX7_room 57 = .ok (.iadd, 1) := by decide +kernel
theorem dX7_room_58 : decode cX7_room 58 = .ok (.laload, 1) := by decide +kernel
theorem dX7_room_59 : decode cX7_room 59 = .ok (.ldc2_w 125, 3) := by decide +kernel
theorem dX7_room_62 : decode cX7_room 62 = .ok (.lxor, 1) := by decide +kernel
theorem dX7_room_63 : decode cX7_room 63 = .ok (.land, 1) := by decide +kernel
theorem dX7_room_64 : decode cX7_room 64 = .ok (.lstore_n 3, 1) := by decide +kernel
theorem dX7_room_65 : decode cX7_room 65 = .ok (.aload_n 0, 1) := by decide +kernel
theorem dX7_room_66 : decode cX7_room 66 = .ok (.getfield 22, 3) := by decide +kernel
theorem dX7_room_69 : decode cX7_room 69 = .ok (.iload 7, 2) := by decide +kernel
theorem dX7_room_71 : decode cX7_room 71 = .ok (.iaload, 1) := by decide +kernel
theorem dX7_room_72 : decode cX7_room 72 = .ok (.iload_n 2, 1) := by decide +kernel
theorem dX7_room_73 : decode cX7_room 73 = .ok (.if_icmp .ne 17, 3) := by decide +kernel
theorem dX7_room_76 : decode cX7_room 76 = .ok (.lload 5, 2) := by decide +kernel
theorem dX7_room_78 : decode cX7_room 78 = .ok (.lconst 1, 1) := by decide +kernel
theorem dX7_room_79 : decode cX7_room 79 = .ok (.aload_n 0, 1) := by decide +kernel
theorem dX7_room_80 : decode cX7_room 80 = .ok (.getfield 37, 3) := by decide +kernel
theorem dX7_room_83 : decode cX7_room 83 = .ok (.iload 7, 2) := by decide +kernel
theorem dX7_room_85 : decode cX7_room 85 = .ok (.iaload, 1) := by decide +kernel
theorem dX7_room_86 : decode cX7_room 86 = .ok (.lshl, 1) := by decide +kernel
theorem dX7_room_87 : decode cX7_room 87 = .ok (.lor, 1) := by decide +kernel
theorem dX7_room_88 : decode cX7_room 88 = .ok (.lstore 5, 2) := by decide +kernel
theorem dX7_room_90 : decode cX7_room 90 = .ok (.iinc 7 1, 3) := by decide +kernel
theorem dX7_room_93 : decode cX7_room 93 = .ok (.goto (-73), 3) := by decide +kernel
theorem dX7_room_96 : decode cX7_room 96 = .ok (.lload 5, 2) := by decide +kernel
theorem dX7_room_98 : decode cX7_room 98 = .ok (.lconst 0, 1) := by decide +kernel
theorem dX7_room_99 : decode cX7_room 99 = .ok (.lcmp, 1) := by decide +kernel
theorem dX7_room_100 : decode cX7_room 100 = .ok (.ifCond .eq 18, 3) := by decide +kernel
theorem dX7_room_103 : decode cX7_room 103 = .ok (.lload_n 3, 1) := by decide +kernel
theorem dX7_room_104 : decode cX7_room 104 = .ok (.ldc2_w 156, 3) := by decide +kernel
theorem dX7_room_107 : decode cX7_room 107 = .ok (.aload_n 0, 1) := by decide +kernel
theorem dX7_room_108 : decode cX7_room 108 = .ok (.getfield 37, 3) := by decide +kernel
theorem dX7_room_111 : decode cX7_room 111 = .ok (.iload_n 1, 1) := by decide +kernel
theorem dX7_room_112 : decode cX7_room 112 = .ok (.iconst 1, 1) := by decide +kernel
theorem dX7_room_113 : decode cX7_room 113 = .ok (.isub, 1) := by decide +kernel
theorem dX7_room_114 : decode cX7_room 114 = .ok (.iaload, 1) := by decide +kernel
theorem dX7_room_115 : decode cX7_room 115 = .ok (.lshl, 1) := by decide +kernel
theorem dX7_room_116 : decode cX7_room 116 = .ok (.land, 1) := by decide +kernel
theorem dX7_room_117 : decode cX7_room 117 = .ok (.lstore_n 3, 1) := by decide +kernel
theorem dX7_room_118 : decode cX7_room 118 = .ok (.aload_n 0, 1) := by decide +kernel
theorem dX7_room_119 : decode cX7_room 119 = .ok (.getfield 115, 3) := by decide +kernel
theorem dX7_room_122 : decode cX7_room 122 = .ok (.ifCond .eq 9, 3) := by decide +kernel
theorem dX7_room_125 : decode cX7_room 125 = .ok (.lload_n 3, 1) := by decide +kernel
theorem dX7_room_126 : decode cX7_room 126 = .ok (.lconst 0, 1) := by decide +kernel
theorem dX7_room_127 : decode cX7_room 127 = .ok (.lcmp, 1) := by decide +kernel
theorem dX7_room_128 : decode cX7_room 128 = .ok (.ifCond .ne 7, 3) := by decide +kernel
theorem dX7_room_131 : decode cX7_room 131 = .ok (.lload_n 3, 1) := by decide +kernel
theorem dX7_room_132 : decode cX7_room 132 = .ok (.goto 11, 3) := by decide +kernel
theorem dX7_room_135 : decode cX7_room 135 = .ok (.aload_n 0, 1) := by decide +kernel
theorem dX7_room_136 : decode cX7_room 136 = .ok (.lload_n 3, 1) := by decide +kernel
theorem dX7_room_137 : decode cX7_room 137 = .ok (.iload_n 1, 1) := by decide +kernel
theorem dX7_room_138 : decode cX7_room 138 = .ok (.lload 5, 2) := by decide +kernel
theorem dX7_room_140 : decode cX7_room 140 = .ok (.invokevirtual 158, 3) := by decide +kernel
theorem dX7_room_143 : decode cX7_room 143 = .ok (.lreturn, 1) := by decide +kernel
theorem dX7_roomByNotes_0 : decode cX7_roomByNotes 0 = .ok (.aload_n 0, 1) := by decide +kernel
theorem dX7_roomByNotes_1 : decode cX7_roomByNotes 1 = .ok (.getfield 22, 3) := by decide +kernel
theorem dX7_roomByNotes_4 : decode cX7_roomByNotes 4 = .ok (.iload_n 3, 1) := by decide +kernel
theorem dX7_roomByNotes_5 : decode cX7_roomByNotes 5 = .ok (.iaload, 1) := by decide +kernel
theorem dX7_roomByNotes_6 : decode cX7_roomByNotes 6 = .ok (.istore 6, 2) := by decide +kernel
theorem dX7_roomByNotes_8 : decode cX7_roomByNotes 8 = .ok (.iload_n 3, 1) := by decide +kernel
theorem dX7_roomByNotes_9 : decode cX7_roomByNotes 9 = .ok (.iconst 1, 1) := by decide +kernel
theorem dX7_roomByNotes_10 : decode cX7_roomByNotes 10 = .ok (.iadd, 1) := by decide +kernel
theorem dX7_roomByNotes_11 : decode cX7_roomByNotes 11 = .ok (.aload_n 0, 1) := by decide +kernel
theorem dX7_roomByNotes_12 : decode cX7_roomByNotes 12 = .ok (.getfield 62, 3) := by decide +kernel
theorem dX7_roomByNotes_15 : decode cX7_roomByNotes 15 = .ok (.if_icmp .eq 16, 3) := by decide +kernel
theorem dX7_roomByNotes_18 : decode cX7_roomByNotes 18 = .ok (.aload_n 0, 1) := by decide +kernel
theorem dX7_roomByNotes_19 : decode cX7_roomByNotes 19 = .ok (.getfield 22, 3) := by decide +kernel
theorem dX7_roomByNotes_22 : decode cX7_roomByNotes 22 = .ok (.iload_n 3, 1) := by decide +kernel
theorem dX7_roomByNotes_23 : decode cX7_roomByNotes 23 = .ok (.iconst 1, 1) := by decide +kernel
theorem dX7_roomByNotes_24 : decode cX7_roomByNotes 24 = .ok (.iadd, 1) := by decide +kernel
theorem dX7_roomByNotes_25 : decode cX7_roomByNotes 25 = .ok (.iaload, 1) := by decide +kernel
theorem dX7_roomByNotes_26 : decode cX7_roomByNotes 26 = .ok (.iload 6, 2) := by decide +kernel
theorem dX7_roomByNotes_28 : decode cX7_roomByNotes 28 = .ok (.if_icmp .eq 7, 3) := by decide +kernel
theorem dX7_roomByNotes_31 : decode cX7_roomByNotes 31 = .ok (.iconst 1, 1) := by decide +kernel
theorem dX7_roomByNotes_32 : decode cX7_roomByNotes 32 = .ok (.goto 4, 3) := by decide +kernel
theorem dX7_roomByNotes_35 : decode cX7_roomByNotes 35 = .ok (.iconst 0, 1) := by decide +kernel
theorem dX7_roomByNotes_36 : decode cX7_roomByNotes 36 = .ok (.istore 7, 2) := by decide +kernel
theorem dX7_roomByNotes_38 : decode cX7_roomByNotes 38 = .ok (.lload_n 1, 1) := by decide +kernel
theorem dX7_roomByNotes_39 : decode cX7_roomByNotes 39 = .ok (.lstore 8, 2) := by decide +kernel
theorem dX7_roomByNotes_41 : decode cX7_roomByNotes 41 = .ok (.iconst 0, 1) := by decide +kernel
theorem dX7_roomByNotes_42 : decode cX7_roomByNotes 42 = .ok (.istore 10, 2) := by decide +kernel
theorem dX7_roomByNotes_44 : decode cX7_roomByNotes 44 = .ok (.iload 10, 2) := by decide +kernel
theorem dX7_roomByNotes_46 : decode cX7_roomByNotes 46 = .ok (.aload_n 0, 1) := by decide +kernel
theorem dX7_roomByNotes_47 : decode cX7_roomByNotes 47 = .ok (.getfield 115, 3) := by decide +kernel
theorem dX7_roomByNotes_50 : decode cX7_roomByNotes 50 = .ok (.if_icmp .ge 105, 3) := by decide +kernel
theorem dX7_roomByNotes_53 : decode cX7_roomByNotes 53 = .ok (.aload_n 0, 1) := by decide +kernel
theorem dX7_roomByNotes_54 : decode cX7_roomByNotes 54 = .ok (.getfield 31, 3) := by decide +kernel
theorem dX7_roomByNotes_57 : decode cX7_roomByNotes 57 = .ok (.iload 10, 2) := by decide +kernel
theorem dX7_roomByNotes_59 : decode cX7_roomByNotes 59 = .ok (.iaload, 1) := by decide +kernel
theorem dX7_roomByNotes_60 : decode cX7_roomByNotes 60 = .ok (.iload 6, 2) := by decide +kernel
theorem dX7_roomByNotes_62 : decode cX7_roomByNotes 62 = .ok (.if_icmp .ne 87, 3) := by decide +kernel
theorem dX7_roomByNotes_65 : decode cX7_roomByNotes 65 = .ok (.aload_n 0, 1) := by decide +kernel
theorem dX7_roomByNotes_66 : decode cX7_roomByNotes 66 = .ok (.getfield 28, 3) := by decide +kernel
theorem dX7_roomByNotes_69 : decode cX7_roomByNotes 69 = .ok (.iload 10, 2) := by decide +kernel
theorem dX7_roomByNotes_71 : decode cX7_roomByNotes 71 = .ok (.laload, 1) := by decide +kernel
theorem dX7_roomByNotes_72 : decode cX7_roomByNotes 72 = .ok (.lload 4, 2) := by decide +kernel
theorem dX7_roomByNotes_74 : decode cX7_roomByNotes 74 = .ok (.land, 1) := by decide +kernel
theorem dX7_roomByNotes_75 : decode cX7_roomByNotes 75 = .ok (.invokestatic 162, 3) := by decide +kernel
theorem dX7_roomByNotes_78 : decode cX7_roomByNotes 78 = .ok (.istore 11, 2) := by decide +kernel
theorem dX7_roomByNotes_80 : decode cX7_roomByNotes 80 = .ok (.aload_n 0, 1) := by decide +kernel
theorem dX7_roomByNotes_81 : decode cX7_roomByNotes 81 = .ok (.getfield 34, 3) := by decide +kernel
theorem dX7_roomByNotes_84 : decode cX7_roomByNotes 84 = .ok (.iload 10, 2) := by decide +kernel
theorem dX7_roomByNotes_86 : decode cX7_roomByNotes 86 = .ok (.iaload, 1) := by decide +kernel
theorem dX7_roomByNotes_87 : decode cX7_roomByNotes 87 = .ok (.ifCond .le 40, 3) := by decide +kernel
theorem dX7_roomByNotes_90 : decode cX7_roomByNotes 90 = .ok (.lload 8, 2) := by decide +kernel
theorem dX7_roomByNotes_92 : decode cX7_roomByNotes 92 = .ok (.iload 11, 2) := by decide +kernel
theorem dX7_roomByNotes_94 : decode cX7_roomByNotes 94 = .ok (.aload_n 0, 1) := by decide +kernel
theorem dX7_roomByNotes_95 : decode cX7_roomByNotes 95 = .ok (.getfield 34, 3) := by decide +kernel
theorem dX7_roomByNotes_98 : decode cX7_roomByNotes 98 = .ok (.iload 10, 2) := by decide +kernel
theorem dX7_roomByNotes_100 : decode cX7_roomByNotes 100 = .ok (.iaload, 1) := by decide +kernel
theorem dX7_roomByNotes_101 : decode cX7_roomByNotes 101 = .ok (.if_icmp .lt 17, 3) := by decide +kernel
theorem dX7_roomByNotes_104 : decode cX7_roomByNotes 104 = .ok (.aload_n 0, 1) := by decide +kernel
theorem dX7_roomByNotes_105 : decode cX7_roomByNotes 105 = .ok (.getfield 28, 3) := by decide +kernel
theorem dX7_roomByNotes_108 : decode cX7_roomByNotes 108 = .ok (.iload 10, 2) := by decide +kernel
theorem dX7_roomByNotes_110 : decode cX7_roomByNotes 110 = .ok (.laload, 1) := by decide +kernel
theorem dX7_roomByNotes_111 : decode cX7_roomByNotes 111 = .ok (.ldc2_w 125, 3) := by decide +kernel
theorem dX7_roomByNotes_114 : decode cX7_roomByNotes 114 = .ok (.lxor, 1) := by decide +kernel
theorem dX7_roomByNotes_115 : decode cX7_roomByNotes 115 = .ok (.goto 6, 3) := by decide +kernel
theorem dX7_roomByNotes_118 : decode cX7_roomByNotes 118 = .ok (.ldc2_w 125, 3) := by decide +kernel
theorem dX7_roomByNotes_121 : decode cX7_roomByNotes 121 = .ok (.land, 1) := by decide +kernel
theorem dX7_roomByNotes_122 : decode cX7_roomByNotes 122 = .ok (.lstore 8, 2) := by decide +kernel
theorem dX7_roomByNotes_124 : decode cX7_roomByNotes 124 = .ok (.goto 25, 3) := by decide +kernel
theorem dX7_roomByNotes_127 : decode cX7_roomByNotes 127 = .ok (.iload 7, 2) := by decide +kernel
theorem dX7_roomByNotes_129 : decode cX7_roomByNotes 129 = .ok (.ifCond .eq 20, 3) := by decide +kernel
theorem dX7_roomByNotes_132 : decode cX7_roomByNotes 132 = .ok (.iload 11, 2) := by decide +kernel
theorem dX7_roomByNotes_134 : decode cX7_roomByNotes 134 = .ok (.ifCond .ne 15, 3) := by decide +kernel
theorem dX7_roomByNotes_137 : decode cX7_roomByNotes 137 = .ok (.lload 8, 2) := by decide +kernel
theorem dX7_roomByNotes_139 : decode cX7_roomByNotes 139 = .ok (.aload_n 0, 1) := by decide +kernel
theorem dX7_roomByNotes_140 : decode cX7_roomByNotes 140 = .ok (.getfield 28, 3) := by decide +kernel
theorem dX7_roomByNotes_143 : decode cX7_roomByNotes 143 = .ok (.iload 10, 2) := by decide +kernel
theorem dX7_roomByNotes_145 : decode cX7_roomByNotes 145 = .ok (.laload, 1) := by decide +kernel
theorem dX7_roomByNotes_146 : decode cX7_roomByNotes 146 = .ok (.land, 1) := by decide +kernel
theorem dX7_roomByNotes_147 : decode cX7_roomByNotes 147 = .ok (.lstore 8, 2) := by decide +kernel
theorem dX7_roomByNotes_149 : decode cX7_roomByNotes 149 = .ok (.iinc 10 1, 3) := by decide +kernel
theorem dX7_roomByNotes_152 : decode cX7_roomByNotes 152 = .ok (.goto (-108), 3) := by decide +kernel
theorem dX7_roomByNotes_155 : decode cX7_roomByNotes 155 = .ok (.lload 8, 2) := by decide +kernel
theorem dX7_roomByNotes_157 : decode cX7_roomByNotes 157 = .ok (.lreturn, 1) := by decide +kernel
theorem dX7_placed_0 : decode cX7_placed 0 = .ok (.aload_n 0, 1) := by decide +kernel
theorem dX7_placed_1 : decode cX7_placed 1 = .ok (.getfield 62, 3) := by decide +kernel
theorem dX7_placed_4 : decode cX7_placed 4 = .ok (.iconst 1, 1) := by decide +kernel
theorem dX7_placed_5 : decode cX7_placed 5 = .ok (.isub, 1) := by decide +kernel
theorem dX7_placed_6 : decode cX7_placed 6 = .ok (.ireturn, 1) := by decide +kernel
theorem dX7_placedSort_0 : decode cX7_placedSort 0 = .ok (.aload_n 0, 1) := by decide +kernel
theorem dX7_placedSort_1 : decode cX7_placedSort 1 = .ok (.getfield 22, 3) := by decide +kernel
theorem dX7_placedSort_4 : decode cX7_placedSort 4 = .ok (.iload_n 1, 1) := by decide +kernel
theorem dX7_placedSort_5 : decode cX7_placedSort 5 = .ok (.iaload, 1) := by decide +kernel
theorem dX7_placedSort_6 : decode cX7_placedSort 6 = .ok (.ireturn, 1) := by decide +kernel
theorem dX7_placedAt_0 : decode cX7_placedAt 0 = .ok (.aload_n 0, 1) := by decide +kernel
theorem dX7_placedAt_1 : decode cX7_placedAt 1 = .ok (.getfield 37, 3) := by decide +kernel
theorem dX7_placedAt_4 : decode cX7_placedAt 4 = .ok (.iload_n 1, 1) := by decide +kernel
theorem dX7_placedAt_5 : decode cX7_placedAt 5 = .ok (.iaload, 1) := by decide +kernel
theorem dX7_placedAt_6 : decode cX7_placedAt 6 = .ok (.ireturn, 1) := by decide +kernel
theorem dX7_lastSort_0 : decode cX7_lastSort 0 = .ok (.aload_n 0, 1) := by decide +kernel
theorem dX7_lastSort_1 : decode cX7_lastSort 1 = .ok (.getfield 62, 3) := by decide +kernel
theorem dX7_lastSort_4 : decode cX7_lastSort 4 = .ok (.ifCond .ne 7, 3) := by decide +kernel
theorem dX7_lastSort_7 : decode cX7_lastSort 7 = .ok (.iconst 0, 1) := by decide +kernel
theorem dX7_lastSort_8 : decode cX7_lastSort 8 = .ok (.goto 14, 3) := by decide +kernel
theorem dX7_lastSort_11 : decode cX7_lastSort 11 = .ok (.aload_n 0, 1) := by decide +kernel
theorem dX7_lastSort_12 : decode cX7_lastSort 12 = .ok (.getfield 22, 3) := by decide +kernel
theorem dX7_lastSort_15 : decode cX7_lastSort 15 = .ok (.aload_n 0, 1) := by decide +kernel
theorem dX7_lastSort_16 : decode cX7_lastSort 16 = .ok (.getfield 62, 3) := by decide +kernel
theorem dX7_lastSort_19 : decode cX7_lastSort 19 = .ok (.iconst 1, 1) := by decide +kernel
theorem dX7_lastSort_20 : decode cX7_lastSort 20 = .ok (.isub, 1) := by decide +kernel
theorem dX7_lastSort_21 : decode cX7_lastSort 21 = .ok (.iaload, 1) := by decide +kernel
theorem dX7_lastSort_22 : decode cX7_lastSort 22 = .ok (.ireturn, 1) := by decide +kernel
theorem dX7_total_0 : decode cX7_total 0 = .ok (.iconst 0, 1) := by decide +kernel
theorem dX7_total_1 : decode cX7_total 1 = .ok (.istore_n 2, 1) := by decide +kernel
theorem dX7_total_2 : decode cX7_total 2 = .ok (.aload_n 0, 1) := by decide +kernel
theorem dX7_total_3 : decode cX7_total 3 = .ok (.iload_n 1, 1) := by decide +kernel
theorem dX7_total_4 : decode cX7_total 4 = .ok (.invokevirtual 167, 3) := by decide +kernel
theorem dX7_total_7 : decode cX7_total 7 = .ok (.iconst 0, 1) := by decide +kernel
theorem dX7_total_8 : decode cX7_total 8 = .ok (.istore_n 3, 1) := by decide +kernel
theorem dX7_total_9 : decode cX7_total 9 = .ok (.iload_n 3, 1) := by decide +kernel
theorem dX7_total_10 : decode cX7_total 10 = .ok (.ldc 151, 2) := by decide +kernel
theorem dX7_total_12 : decode cX7_total 12 = .ok (.if_icmp .ge 26, 3) := by decide +kernel
theorem dX7_total_15 : decode cX7_total 15 = .ok (.aload_n 0, 1) := by decide +kernel
theorem dX7_total_16 : decode cX7_total 16 = .ok (.invokevirtual 171, 3) := by decide +kernel
theorem dX7_total_19 : decode cX7_total 19 = .ok (.ifCond .eq 19, 3) := by decide +kernel
theorem dX7_total_22 : decode cX7_total 22 = .ok (.iload_n 2, 1) := by decide +kernel
theorem dX7_total_23 : decode cX7_total 23 = .ok (.aload_n 0, 1) := by decide +kernel
theorem dX7_total_24 : decode cX7_total 24 = .ok (.getfield 147, 3) := by decide +kernel
theorem dX7_total_27 : decode cX7_total 27 = .ok (.invokestatic 162, 3) := by decide +kernel
theorem dX7_total_30 : decode cX7_total 30 = .ok (.iadd, 1) := by decide +kernel
theorem dX7_total_31 : decode cX7_total 31 = .ok (.istore_n 2, 1) := by decide +kernel
theorem dX7_total_32 : decode cX7_total 32 = .ok (.iinc 3 1, 3) := by decide +kernel
theorem dX7_total_35 : decode cX7_total 35 = .ok (.goto (-26), 3) := by decide +kernel
theorem dX7_total_38 : decode cX7_total 38 = .ok (.iload_n 2, 1) := by decide +kernel
theorem dX7_total_39 : decode cX7_total 39 = .ok (.ireturn, 1) := by decide +kernel
theorem dX7_any_0 : decode cX7_any 0 = .ok (.aload_n 0, 1) := by decide +kernel
theorem dX7_any_1 : decode cX7_any 1 = .ok (.iload_n 1, 1) := by decide +kernel
theorem dX7_any_2 : decode cX7_any 2 = .ok (.invokevirtual 167, 3) := by decide +kernel
theorem dX7_any_5 : decode cX7_any 5 = .ok (.aload_n 0, 1) := by decide +kernel
theorem dX7_any_6 : decode cX7_any 6 = .ok (.invokevirtual 171, 3) := by decide +kernel
theorem dX7_any_9 : decode cX7_any 9 = .ok (.ireturn, 1) := by decide +kernel
theorem dX7_tally_0 : decode cX7_tally 0 = .ok (.aload_n 0, 1) := by decide +kernel
theorem dX7_tally_1 : decode cX7_tally 1 = .ok (.getfield 43, 3) := by decide +kernel
theorem dX7_tally_4 : decode cX7_tally 4 = .ok (.iconst 0, 1) := by decide +kernel
theorem dX7_tally_5 : decode cX7_tally 5 = .ok (.invokestatic 80, 3) := by decide +kernel
theorem dX7_tally_8 : decode cX7_tally 8 = .ok (.aload_n 0, 1) := by decide +kernel
theorem dX7_tally_9 : decode cX7_tally 9 = .ok (.iload_n 1, 1) := by decide +kernel
theorem dX7_tally_10 : decode cX7_tally 10 = .ok (.invokevirtual 167, 3) := by decide +kernel
theorem dX7_tally_13 : decode cX7_tally 13 = .ok (.iconst 0, 1) := by decide +kernel
theorem dX7_tally_14 : decode cX7_tally 14 = .ok (.istore 5, 2) := by decide +kernel
theorem dX7_tally_16 : decode cX7_tally 16 = .ok (.iload 5, 2) := by decide +kernel
theorem dX7_tally_18 : decode cX7_tally 18 = .ok (.ldc 151, 2) := by decide +kernel
theorem dX7_tally_20 : decode cX7_tally 20 = .ok (.if_icmp .ge 126, 3) := by decide +kernel
theorem dX7_tally_23 : decode cX7_tally 23 = .ok (.aload_n 0, 1) := by decide +kernel
theorem dX7_tally_24 : decode cX7_tally 24 = .ok (.invokevirtual 171, 3) := by decide +kernel
theorem dX7_tally_27 : decode cX7_tally 27 = .ok (.ifCond .eq 119, 3) := by decide +kernel
theorem dX7_tally_30 : decode cX7_tally 30 = .ok (.iconst 0, 1) := by decide +kernel
theorem dX7_tally_31 : decode cX7_tally 31 = .ok (.istore 6, 2) := by decide +kernel
theorem dX7_tally_33 : decode cX7_tally 33 = .ok (.iconst 0, 1) := by decide +kernel
theorem dX7_tally_34 : decode cX7_tally 34 = .ok (.istore 7, 2) := by decide +kernel
theorem dX7_tally_36 : decode cX7_tally 36 = .ok (.iload 7, 2) := by decide +kernel
theorem dX7_tally_38 : decode cX7_tally 38 = .ok (.aload_n 0, 1) := by decide +kernel
theorem dX7_tally_39 : decode cX7_tally 39 = .ok (.getfield 62, 3) := by decide +kernel
theorem dX7_tally_42 : decode cX7_tally 42 = .ok (.iconst 1, 1) := by decide +kernel
theorem dX7_tally_43 : decode cX7_tally 43 = .ok (.isub, 1) := by decide +kernel
theorem dX7_tally_44 : decode cX7_tally 44 = .ok (.if_icmp .ge 39, 3) := by decide +kernel
theorem dX7_tally_47 : decode cX7_tally 47 = .ok (.aload_n 0, 1) := by decide +kernel
theorem dX7_tally_48 : decode cX7_tally 48 = .ok (.getfield 22, 3) := by decide +kernel
theorem dX7_tally_51 : decode cX7_tally 51 = .ok (.iload 7, 2) := by decide +kernel
theorem dX7_tally_53 : decode cX7_tally 53 = .ok (.iaload, 1) := by decide +kernel
theorem dX7_tally_54 : decode cX7_tally 54 = .ok (.iload_n 2, 1) := by decide +kernel
theorem dX7_tally_55 : decode cX7_tally 55 = .ok (.if_icmp .ne 22, 3) := by decide +kernel
theorem dX7_tally_58 : decode cX7_tally 58 = .ok (.lload_n 3, 1) := by decide +kernel
theorem dX7_tally_59 : decode cX7_tally 59 = .ok (.aload_n 0, 1) := by decide +kernel
theorem dX7_tally_60 : decode cX7_tally 60 = .ok (.getfield 37, 3) := by decide +kernel
theorem dX7_tally_63 : decode cX7_tally 63 = .ok (.iload 7, 2) := by decide +kernel
theorem dX7_tally_65 : decode cX7_tally 65 = .ok (.iaload, 1) := by decide +kernel
theorem dX7_tally_66 : decode cX7_tally 66 = .ok (.lushr, 1) := by decide +kernel
theorem dX7_tally_67 : decode cX7_tally 67 = .ok (.lconst 1, 1) := by decide +kernel
theorem dX7_tally_68 : decode cX7_tally 68 = .ok (.land, 1) := by decide +kernel
theorem dX7_tally_69 : decode cX7_tally 69 = .ok (.lconst 0, 1) := by decide +kernel
theorem dX7_tally_70 : decode cX7_tally 70 = .ok (.lcmp, 1) := by decide +kernel
theorem dX7_tally_71 : decode cX7_tally 71 = .ok (.ifCond .eq 6, 3) := by decide +kernel
theorem dX7_tally_74 : decode cX7_tally 74 = .ok (.iinc 6 1, 3) := by decide +kernel
theorem dX7_tally_77 : decode cX7_tally 77 = .ok (.iinc 7 1, 3) := by decide +kernel
theorem dX7_tally_80 : decode cX7_tally 80 = .ok (.goto (-44), 3) := by decide +kernel
theorem dX7_tally_83 : decode cX7_tally 83 = .ok (.aload_n 0, 1) := by decide +kernel
theorem dX7_tally_84 : decode cX7_tally 84 = .ok (.invokevirtual 175, 3) := by decide +kernel
theorem dX7_tally_87 : decode cX7_tally 87 = .ok (.iload_n 2, 1) := by decide +kernel
theorem dX7_tally_88 : decode cX7_tally 88 = .ok (.if_icmp .ne 15, 3) := by decide +kernel
theorem dX7_tally_91 : decode cX7_tally 91 = .ok (.aload_n 0, 1) := by decide +kernel
theorem dX7_tally_92 : decode cX7_tally 92 = .ok (.getfield 147, 3) := by decide +kernel
theorem dX7_tally_95 : decode cX7_tally 95 = .ok (.lload_n 3, 1) := by decide +kernel
theorem dX7_tally_96 : decode cX7_tally 96 = .ok (.land, 1) := by decide +kernel
theorem dX7_tally_97 : decode cX7_tally 97 = .ok (.invokestatic 162, 3) := by decide +kernel
theorem dX7_tally_100 : decode cX7_tally 100 = .ok (.goto 4, 3) := by decide +kernel
theorem dX7_tally_103 : decode cX7_tally 103 = .ok (.iconst 0, 1) := by decide +kernel
theorem dX7_tally_104 : decode cX7_tally 104 = .ok (.istore 7, 2) := by decide +kernel
theorem dX7_tally_106 : decode cX7_tally 106 = .ok (.aload_n 0, 1) := by decide +kernel
theorem dX7_tally_107 : decode cX7_tally 107 = .ok (.getfield 43, 3) := by decide +kernel
theorem dX7_tally_110 : decode cX7_tally 110 = .ok (.iload 6, 2) := by decide +kernel
theorem dX7_tally_112 : decode cX7_tally 112 = .ok (.dup2, 1) := by decide +kernel
theorem dX7_tally_113 : decode cX7_tally 113 = .ok (.iaload, 1) := by decide +kernel
theorem dX7_tally_114 : decode cX7_tally 114 = .ok (.aload_n 0, 1) := by decide +kernel
theorem dX7_tally_115 : decode cX7_tally 115 = .ok (.getfield 147, 3) := by decide +kernel
theorem dX7_tally_118 : decode cX7_tally 118 = .ok (.invokestatic 162, 3) := by decide +kernel
theorem dX7_tally_121 : decode cX7_tally 121 = .ok (.iload 7, 2) := by decide +kernel
theorem dX7_tally_123 : decode cX7_tally 123 = .ok (.isub, 1) := by decide +kernel
theorem dX7_tally_124 : decode cX7_tally 124 = .ok (.iadd, 1) := by decide +kernel
theorem dX7_tally_125 : decode cX7_tally 125 = .ok (.iastore, 1) := by decide +kernel
theorem dX7_tally_126 : decode cX7_tally 126 = .ok (.aload_n 0, 1) := by decide +kernel
theorem dX7_tally_127 : decode cX7_tally 127 = .ok (.getfield 43, 3) := by decide +kernel
theorem dX7_tally_130 : decode cX7_tally 130 = .ok (.iload 6, 2) := by decide +kernel
theorem dX7_tally_132 : decode cX7_tally 132 = .ok (.iconst 1, 1) := by decide +kernel
theorem dX7_tally_133 : decode cX7_tally 133 = .ok (.iadd, 1) := by decide +kernel
theorem dX7_tally_134 : decode cX7_tally 134 = .ok (.dup2, 1) := by decide +kernel
theorem dX7_tally_135 : decode cX7_tally 135 = .ok (.iaload, 1) := by decide +kernel
theorem dX7_tally_136 : decode cX7_tally 136 = .ok (.iload 7, 2) := by decide +kernel
theorem dX7_tally_138 : decode cX7_tally 138 = .ok (.iadd, 1) := by decide +kernel
theorem dX7_tally_139 : decode cX7_tally 139 = .ok (.iastore, 1) := by decide +kernel
theorem dX7_tally_140 : decode cX7_tally 140 = .ok (.iinc 5 1, 3) := by decide +kernel
theorem dX7_tally_143 : decode cX7_tally 143 = .ok (.goto (-127), 3) := by decide +kernel
theorem dX7_tally_146 : decode cX7_tally 146 = .ok (.return_, 1) := by decide +kernel
theorem dX7_squareOf_0 : decode cX7_squareOf 0 = .ok (.iload_n 3, 1) := by decide +kernel
theorem dX7_squareOf_1 : decode cX7_squareOf 1 = .ok (.aload_n 0, 1) := by decide +kernel
theorem dX7_squareOf_2 : decode cX7_squareOf 2 = .ok (.getfield 62, 3) := by decide +kernel
theorem dX7_squareOf_5 : decode cX7_squareOf 5 = .ok (.if_icmp .lt 6, 3) := by decide +kernel
theorem dX7_squareOf_8 : decode cX7_squareOf 8 = .ok (.bipush (-2), 2) := by decide +kernel
theorem dX7_squareOf_10 : decode cX7_squareOf 10 = .ok (.ireturn, 1) := by decide +kernel
theorem dX7_squareOf_11 : decode cX7_squareOf 11 = .ok (.iload_n 2, 1) := by decide +kernel
theorem dX7_squareOf_12 : decode cX7_squareOf 12 = .ok (.istore 4, 2) := by decide +kernel
theorem dX7_squareOf_14 : decode cX7_squareOf 14 = .ok (.aload_n 0, 1) := by decide +kernel
theorem dX7_squareOf_15 : decode cX7_squareOf 15 = .ok (.iload_n 1, 1) := by decide +kernel
theorem dX7_squareOf_16 : decode cX7_squareOf 16 = .ok (.invokevirtual 167, 3) := by decide +kernel
theorem dX7_squareOf_19 : decode cX7_squareOf 19 = .ok (.iconst 0, 1) := by decide +kernel
theorem dX7_squareOf_20 : decode cX7_squareOf 20 = .ok (.istore 5, 2) := by decide +kernel
theorem dX7_squareOf_22 : decode cX7_squareOf 22 = .ok (.iload 5, 2) := by decide +kernel
theorem dX7_squareOf_24 : decode cX7_squareOf 24 = .ok (.ldc 151, 2) := by decide +kernel
theorem dX7_squareOf_26 : decode cX7_squareOf 26 = .ok (.if_icmp .ge 68, 3) := by decide +kernel
theorem dX7_squareOf_29 : decode cX7_squareOf 29 = .ok (.aload_n 0, 1) := by decide +kernel
theorem dX7_squareOf_30 : decode cX7_squareOf 30 = .ok (.invokevirtual 171, 3) := by decide +kernel
theorem dX7_squareOf_33 : decode cX7_squareOf 33 = .ok (.ifCond .eq 61, 3) := by decide +kernel
theorem dX7_squareOf_36 : decode cX7_squareOf 36 = .ok (.aload_n 0, 1) := by decide +kernel
theorem dX7_squareOf_37 : decode cX7_squareOf 37 = .ok (.getfield 147, 3) := by decide +kernel
theorem dX7_squareOf_40 : decode cX7_squareOf 40 = .ok (.invokestatic 162, 3) := by decide +kernel
theorem dX7_squareOf_43 : decode cX7_squareOf 43 = .ok (.istore 6, 2) := by decide +kernel
theorem dX7_squareOf_45 : decode cX7_squareOf 45 = .ok (.iload 4, 2) := by decide +kernel
theorem dX7_squareOf_47 : decode cX7_squareOf 47 = .ok (.iload 6, 2) := by decide +kernel
theorem dX7_squareOf_49 : decode cX7_squareOf 49 = .ok (.if_icmp .ge 32, 3) := by decide +kernel
theorem dX7_squareOf_52 : decode cX7_squareOf 52 = .ok (.iload_n 3, 1) := by decide +kernel
theorem dX7_squareOf_53 : decode cX7_squareOf 53 = .ok (.aload_n 0, 1) := by decide +kernel
theorem dX7_squareOf_54 : decode cX7_squareOf 54 = .ok (.getfield 62, 3) := by decide +kernel
theorem dX7_squareOf_57 : decode cX7_squareOf 57 = .ok (.iconst 1, 1) := by decide +kernel
theorem dX7_squareOf_58 : decode cX7_squareOf 58 = .ok (.isub, 1) := by decide +kernel
theorem dX7_squareOf_59 : decode cX7_squareOf 59 = .ok (.if_icmp .ge 12, 3) := by decide +kernel
theorem dX7_squareOf_62 : decode cX7_squareOf 62 = .ok (.aload_n 0, 1) := by decide +kernel
theorem dX7_squareOf_63 : decode cX7_squareOf 63 = .ok (.getfield 37, 3) := by decide +kernel
theorem dX7_squareOf_66 : decode cX7_squareOf 66 = .ok (.iload_n 3, 1) := by decide +kernel
theorem dX7_squareOf_67 : decode cX7_squareOf 67 = .ok (.iaload, 1) := by decide +kernel
theorem dX7_squareOf_68 : decode cX7_squareOf 68 = .ok (.goto 12, 3) := by decide +kernel
theorem dX7_squareOf_71 : decode cX7_squareOf 71 = .ok (.aload_n 0, 1) := by decide +kernel
theorem dX7_squareOf_72 : decode cX7_squareOf 72 = .ok (.getfield 147, 3) := by decide +kernel
theorem dX7_squareOf_75 : decode cX7_squareOf 75 = .ok (.iload 4, 2) := by decide +kernel
theorem dX7_squareOf_77 : decode cX7_squareOf 77 = .ok (.invokestatic 179, 3) := by decide +kernel
theorem dX7_squareOf_80 : decode cX7_squareOf 80 = .ok (.ireturn, 1) := by decide +kernel
theorem dX7_squareOf_81 : decode cX7_squareOf 81 = .ok (.iload 4, 2) := by decide +kernel
theorem dX7_squareOf_83 : decode cX7_squareOf 83 = .ok (.iload 6, 2) := by decide +kernel
theorem dX7_squareOf_85 : decode cX7_squareOf 85 = .ok (.isub, 1) := by decide +kernel
theorem dX7_squareOf_86 : decode cX7_squareOf 86 = .ok (.istore 4, 2) := by decide +kernel
theorem dX7_squareOf_88 : decode cX7_squareOf 88 = .ok (.iinc 5 1, 3) := by decide +kernel
theorem dX7_squareOf_91 : decode cX7_squareOf 91 = .ok (.goto (-69), 3) := by decide +kernel
theorem dX7_squareOf_94 : decode cX7_squareOf 94 = .ok (.bipush (-2), 2) := by decide +kernel
theorem dX7_squareOf_96 : decode cX7_squareOf 96 = .ok (.ireturn, 1) := by decide +kernel
theorem dX7_nth_0 : decode cX7_nth 0 = .ok (.lload_n 0, 1) := by decide +kernel
theorem dX7_nth_1 : decode cX7_nth 1 = .ok (.lstore_n 3, 1) := by decide +kernel
theorem dX7_nth_2 : decode cX7_nth 2 = .ok (.iconst 0, 1) := by decide +kernel
theorem dX7_nth_3 : decode cX7_nth 3 = .ok (.istore 5, 2) := by decide +kernel
theorem dX7_nth_5 : decode cX7_nth 5 = .ok (.iload 5, 2) := by decide +kernel
theorem dX7_nth_7 : decode cX7_nth 7 = .ok (.iload_n 2, 1) := by decide +kernel
theorem dX7_nth_8 : decode cX7_nth 8 = .ok (.if_icmp .ge 15, 3) := by decide +kernel
theorem dX7_nth_11 : decode cX7_nth 11 = .ok (.lload_n 3, 1) := by decide +kernel
theorem dX7_nth_12 : decode cX7_nth 12 = .ok (.lload_n 3, 1) := by decide +kernel
theorem dX7_nth_13 : decode cX7_nth 13 = .ok (.lconst 1, 1) := by decide +kernel
theorem dX7_nth_14 : decode cX7_nth 14 = .ok (.lsub, 1) := by decide +kernel
theorem dX7_nth_15 : decode cX7_nth 15 = .ok (.land, 1) := by decide +kernel
theorem dX7_nth_16 : decode cX7_nth 16 = .ok (.lstore_n 3, 1) := by decide +kernel
theorem dX7_nth_17 : decode cX7_nth 17 = .ok (.iinc 5 1, 3) := by decide +kernel
theorem dX7_nth_20 : decode cX7_nth 20 = .ok (.goto (-15), 3) := by decide +kernel
theorem dX7_nth_23 : decode cX7_nth 23 = .ok (.lload_n 3, 1) := by decide +kernel
theorem dX7_nth_24 : decode cX7_nth 24 = .ok (.invokestatic 152, 3) := by decide +kernel
theorem dX7_nth_27 : decode cX7_nth 27 = .ok (.ireturn, 1) := by decide +kernel
theorem dX7_sortsOn_0 : decode cX7_sortsOn 0 = .ok (.iconst 0, 1) := by decide +kernel
theorem dX7_sortsOn_1 : decode cX7_sortsOn 1 = .ok (.istore_n 3, 1) := by decide +kernel
theorem dX7_sortsOn_2 : decode cX7_sortsOn 2 = .ok (.iconst 0, 1) := by decide +kernel
theorem dX7_sortsOn_3 : decode cX7_sortsOn 3 = .ok (.istore 4, 2) := by decide +kernel
theorem dX7_sortsOn_5 : decode cX7_sortsOn 5 = .ok (.iload 4, 2) := by decide +kernel
theorem dX7_sortsOn_7 : decode cX7_sortsOn 7 = .ok (.aload_n 0, 1) := by decide +kernel
theorem dX7_sortsOn_8 : decode cX7_sortsOn 8 = .ok (.getfield 62, 3) := by decide +kernel
theorem dX7_sortsOn_11 : decode cX7_sortsOn 11 = .ok (.iconst 1, 1) := by decide +kernel
theorem dX7_sortsOn_12 : decode cX7_sortsOn 12 = .ok (.isub, 1) := by decide +kernel
theorem dX7_sortsOn_13 : decode cX7_sortsOn 13 = .ok (.if_icmp .ge 32, 3) := by decide +kernel
theorem dX7_sortsOn_16 : decode cX7_sortsOn 16 = .ok (.iload_n 3, 1) := by decide +kernel
theorem dX7_sortsOn_17 : decode cX7_sortsOn 17 = .ok (.lload_n 1, 1) := by decide +kernel
theorem dX7_sortsOn_18 : decode cX7_sortsOn 18 = .ok (.aload_n 0, 1) := by decide +kernel
theorem dX7_sortsOn_19 : decode cX7_sortsOn 19 = .ok (.getfield 37, 3) := by decide +kernel
theorem dX7_sortsOn_22 : decode cX7_sortsOn 22 = .ok (.iload 4, 2) := by decide +kernel
theorem dX7_sortsOn_24 : decode cX7_sortsOn 24 = .ok (.iaload, 1) := by decide +kernel
theorem dX7_sortsOn_25 : decode cX7_sortsOn 25 = .ok (.lushr, 1) := by decide +kernel
theorem dX7_sortsOn_26 : decode cX7_sortsOn 26 = .ok (.lconst 1, 1) := by decide +kernel
theorem dX7_sortsOn_27 : decode cX7_sortsOn 27 = .ok (.land, 1) := by decide +kernel
theorem dX7_sortsOn_28 : decode cX7_sortsOn 28 = .ok (.l2i, 1) := by decide +kernel
theorem dX7_sortsOn_29 : decode cX7_sortsOn 29 = .ok (.aload_n 0, 1) := by decide +kernel
theorem dX7_sortsOn_30 : decode cX7_sortsOn 30 = .ok (.getfield 22, 3) := by decide +kernel
theorem dX7_sortsOn_33 : decode cX7_sortsOn 33 = .ok (.iload 4, 2) := by decide +kernel
theorem dX7_sortsOn_35 : decode cX7_sortsOn 35 = .ok (.iaload, 1) := by decide +kernel
theorem dX7_sortsOn_36 : decode cX7_sortsOn 36 = .ok (.ishl, 1) := by decide +kernel
theorem dX7_sortsOn_37 : decode cX7_sortsOn 37 = .ok (.ior, 1) := by decide +kernel
theorem dX7_sortsOn_38 : decode cX7_sortsOn 38 = .ok (.istore_n 3, 1) := by decide +kernel
theorem dX7_sortsOn_39 : decode cX7_sortsOn 39 = .ok (.iinc 4 1, 3) := by decide +kernel
theorem dX7_sortsOn_42 : decode cX7_sortsOn 42 = .ok (.goto (-37), 3) := by decide +kernel
theorem dX7_sortsOn_45 : decode cX7_sortsOn 45 = .ok (.iload_n 3, 1) := by decide +kernel
theorem dX7_sortsOn_46 : decode cX7_sortsOn 46 = .ok (.ireturn, 1) := by decide +kernel
theorem dX8_init_0 : decode cX8_init 0 = .ok (.aload_n 0, 1) := by decide +kernel
theorem dX8_init_1 : decode cX8_init 1 = .ok (.invokespecial 3, 3) := by decide +kernel
theorem dX8_init_4 : decode cX8_init 4 = .ok (.aload_n 0, 1) := by decide +kernel
theorem dX8_init_5 : decode cX8_init 5 = .ok (.new 9, 3) := by decide +kernel
theorem dX8_init_8 : decode cX8_init 8 = .ok (.dup, 1) := by decide +kernel
theorem dX8_init_9 : decode cX8_init 9 = .ok (.invokespecial 11, 3) := by decide +kernel
theorem dX8_init_12 : decode cX8_init 12 = .ok (.putfield 12, 3) := by decide +kernel
theorem dX8_init_15 : decode cX8_init 15 = .ok (.aload_n 0, 1) := by decide +kernel
theorem dX8_init_16 : decode cX8_init 16 = .ok (.bipush 50, 2) := by decide +kernel
theorem dX8_init_18 : decode cX8_init 18 = .ok (.newarray .int, 2) := by decide +kernel
theorem dX8_init_20 : decode cX8_init 20 = .ok (.putfield 18, 3) := by decide +kernel
theorem dX8_init_23 : decode cX8_init 23 = .ok (.aload_n 0, 1) := by decide +kernel
theorem dX8_init_24 : decode cX8_init 24 = .ok (.iconst (-1), 1) := by decide +kernel
theorem dX8_init_25 : decode cX8_init 25 = .ok (.putfield 22, 3) := by decide +kernel
theorem dX8_init_28 : decode cX8_init 28 = .ok (.return_, 1) := by decide +kernel
theorem dX8_copy_0 : decode cX8_copy 0 = .ok (.aload_n 0, 1) := by decide +kernel
theorem dX8_copy_1 : decode cX8_copy 1 = .ok (.getfield 12, 3) := by decide +kernel
theorem dX8_copy_4 : decode cX8_copy 4 = .ok (.aload_n 1, 1) := by decide +kernel
theorem dX8_copy_5 : decode cX8_copy 5 = .ok (.getfield 12, 3) := by decide +kernel
theorem dX8_copy_8 : decode cX8_copy 8 = .ok (.invokevirtual 26, 3) := by decide +kernel
theorem dX8_copy_11 : decode cX8_copy 11 = .ok (.aload_n 0, 1) := by decide +kernel
theorem dX8_copy_12 : decode cX8_copy 12 = .ok (.aload_n 1, 1) := by decide +kernel
theorem dX8_copy_13 : decode cX8_copy 13 = .ok (.getfield 30, 3) := by decide +kernel
theorem dX8_copy_16 : decode cX8_copy 16 = .ok (.putfield 30, 3) := by decide +kernel
theorem dX8_copy_19 : decode cX8_copy 19 = .ok (.aload_n 1, 1) := by decide +kernel
theorem dX8_copy_20 : decode cX8_copy 20 = .ok (.getfield 18, 3) := by decide +kernel
theorem dX8_copy_23 : decode cX8_copy 23 = .ok (.iconst 0, 1) := by decide +kernel
theorem dX8_copy_24 : decode cX8_copy 24 = .ok (.aload_n 0, 1) := by decide +kernel
theorem dX8_copy_25 : decode cX8_copy 25 = .ok (.getfield 18, 3) := by decide +kernel
theorem dX8_copy_28 : decode cX8_copy 28 = .ok (.iconst 0, 1) := by decide +kernel
theorem dX8_copy_29 : decode cX8_copy 29 = .ok (.aload_n 0, 1) := by decide +kernel
theorem dX8_copy_30 : decode cX8_copy 30 = .ok (.getfield 18, 3) := by decide +kernel
theorem dX8_copy_33 : decode cX8_copy 33 = .ok (.arraylength, 1) := by decide +kernel
theorem dX8_copy_34 : decode cX8_copy 34 = .ok (.invokestatic 33, 3) := by decide +kernel
theorem dX8_copy_37 : decode cX8_copy 37 = .ok (.aload_n 0, 1) := by decide +kernel
theorem dX8_copy_38 : decode cX8_copy 38 = .ok (.aload_n 1, 1) := by decide +kernel
theorem dX8_copy_39 : decode cX8_copy 39 = .ok (.getfield 22, 3) := by decide +kernel
theorem dX8_copy_42 : decode cX8_copy 42 = .ok (.putfield 22, 3) := by decide +kernel
theorem dX8_copy_45 : decode cX8_copy 45 = .ok (.aload_n 0, 1) := by decide +kernel
theorem dX8_copy_46 : decode cX8_copy 46 = .ok (.aload_n 1, 1) := by decide +kernel
theorem dX8_copy_47 : decode cX8_copy 47 = .ok (.getfield 39, 3) := by decide +kernel
theorem dX8_copy_50 : decode cX8_copy 50 = .ok (.putfield 39, 3) := by decide +kernel
theorem dX8_copy_53 : decode cX8_copy 53 = .ok (.return_, 1) := by decide +kernel
theorem dX8_write_0 : decode cX8_write 0 = .ok (.aload_n 0, 1) := by decide +kernel
theorem dX8_write_1 : decode cX8_write 1 = .ok (.getfield 30, 3) := by decide +kernel
theorem dX8_write_4 : decode cX8_write 4 = .ok (.iconst 5, 1) := by decide +kernel
theorem dX8_write_5 : decode cX8_write 5 = .ok (.imul, 1) := by decide +kernel
theorem dX8_write_6 : decode cX8_write 6 = .ok (.istore 6, 2) := by decide +kernel
theorem dX8_write_8 : decode cX8_write 8 = .ok (.aload_n 0, 1) := by decide +kernel
theorem dX8_write_9 : decode cX8_write 9 = .ok (.getfield 18, 3) := by decide +kernel
theorem dX8_write_12 : decode cX8_write 12 = .ok (.iload 6, 2) := by decide +kernel
theorem dX8_write_14 : decode cX8_write 14 = .ok (.iload_n 1, 1) := by decide +kernel
theorem dX8_write_15 : decode cX8_write 15 = .ok (.iastore, 1) := by decide +kernel
theorem dX8_write_16 : decode cX8_write 16 = .ok (.aload_n 0, 1) := by decide +kernel
theorem dX8_write_17 : decode cX8_write 17 = .ok (.getfield 18, 3) := by decide +kernel
theorem dX8_write_20 : decode cX8_write 20 = .ok (.iload 6, 2) := by decide +kernel
theorem dX8_write_22 : decode cX8_write 22 = .ok (.iconst 1, 1) := by decide +kernel
theorem dX8_write_23 : decode cX8_write 23 = .ok (.iadd, 1) := by decide +kernel
theorem dX8_write_24 : decode cX8_write 24 = .ok (.iload_n 2, 1) := by decide +kernel
theorem dX8_write_25 : decode cX8_write 25 = .ok (.iastore, 1) := by decide +kernel
theorem dX8_write_26 : decode cX8_write 26 = .ok (.aload_n 0, 1) := by decide +kernel
theorem dX8_write_27 : decode cX8_write 27 = .ok (.getfield 18, 3) := by decide +kernel
theorem dX8_write_30 : decode cX8_write 30 = .ok (.iload 6, 2) := by decide +kernel
theorem dX8_write_32 : decode cX8_write 32 = .ok (.iconst 2, 1) := by decide +kernel
theorem dX8_write_33 : decode cX8_write 33 = .ok (.iadd, 1) := by decide +kernel
theorem dX8_write_34 : decode cX8_write 34 = .ok (.iload_n 3, 1) := by decide +kernel
theorem dX8_write_35 : decode cX8_write 35 = .ok (.iastore, 1) := by decide +kernel
theorem dX8_write_36 : decode cX8_write 36 = .ok (.aload_n 0, 1) := by decide +kernel
theorem dX8_write_37 : decode cX8_write 37 = .ok (.getfield 18, 3) := by decide +kernel
theorem dX8_write_40 : decode cX8_write 40 = .ok (.iload 6, 2) := by decide +kernel
theorem dX8_write_42 : decode cX8_write 42 = .ok (.iconst 3, 1) := by decide +kernel
theorem dX8_write_43 : decode cX8_write 43 = .ok (.iadd, 1) := by decide +kernel
theorem dX8_write_44 : decode cX8_write 44 = .ok (.iload 4, 2) := by decide +kernel
theorem dX8_write_46 : decode cX8_write 46 = .ok (.iastore, 1) := by decide +kernel
theorem dX8_write_47 : decode cX8_write 47 = .ok (.aload_n 0, 1) := by decide +kernel
theorem dX8_write_48 : decode cX8_write 48 = .ok (.getfield 18, 3) := by decide +kernel
theorem dX8_write_51 : decode cX8_write 51 = .ok (.iload 6, 2) := by decide +kernel
theorem dX8_write_53 : decode cX8_write 53 = .ok (.iconst 4, 1) := by decide +kernel
theorem dX8_write_54 : decode cX8_write 54 = .ok (.iadd, 1) := by decide +kernel
theorem dX8_write_55 : decode cX8_write 55 = .ok (.iload 5, 2) := by decide +kernel
theorem dX8_write_57 : decode cX8_write 57 = .ok (.iastore, 1) := by decide +kernel
theorem dX8_write_58 : decode cX8_write 58 = .ok (.aload_n 0, 1) := by decide +kernel
theorem dX8_write_59 : decode cX8_write 59 = .ok (.dup, 1) := by decide +kernel
theorem dX8_write_60 : decode cX8_write 60 = .ok (.getfield 30, 3) := by decide +kernel
theorem dX8_write_63 : decode cX8_write 63 = .ok (.iconst 1, 1) := by decide +kernel
theorem dX8_write_64 : decode cX8_write 64 = .ok (.iadd, 1) := by decide +kernel
theorem dX8_write_65 : decode cX8_write 65 = .ok (.putfield 30, 3) := by decide +kernel
theorem dX8_write_68 : decode cX8_write 68 = .ok (.return_, 1) := by decide +kernel
theorem dX8_fact_0 : decode cX8_fact 0 = .ok (.aload_n 0, 1) := by decide +kernel
theorem dX8_fact_1 : decode cX8_fact 1 = .ok (.getfield 18, 3) := by decide +kernel
theorem dX8_fact_4 : decode cX8_fact 4 = .ok (.iload_n 1, 1) := by decide +kernel
theorem dX8_fact_5 : decode cX8_fact 5 = .ok (.iconst 5, 1) := by decide +kernel
theorem dX8_fact_6 : decode cX8_fact 6 = .ok (.imul, 1) := by decide +kernel
theorem dX8_fact_7 : decode cX8_fact 7 = .ok (.iload_n 2, 1) := by decide +kernel
theorem dX8_fact_8 : decode cX8_fact 8 = .ok (.iadd, 1) := by decide +kernel
theorem dX8_fact_9 : decode cX8_fact 9 = .ok (.iaload, 1) := by decide +kernel
theorem dX8_fact_10 : decode cX8_fact 10 = .ok (.ireturn, 1) := by decide +kernel
theorem dX8_surveyor_0 : decode cX8_surveyor 0 = .ok (.aload_n 0, 1) := by decide +kernel
theorem dX8_surveyor_1 : decode cX8_surveyor 1 = .ok (.iload_n 1, 1) := by decide +kernel
theorem dX8_surveyor_2 : decode cX8_surveyor 2 = .ok (.iconst 0, 1) := by decide +kernel
theorem dX8_surveyor_3 : decode cX8_surveyor 3 = .ok (.invokevirtual 42, 3) := by decide +kernel
theorem dX8_surveyor_6 : decode cX8_surveyor 6 = .ok (.ireturn, 1) := by decide +kernel
theorem dX8_sort_0 : decode cX8_sort 0 = .ok (.aload_n 0, 1) := by decide +kernel
theorem dX8_sort_1 : decode cX8_sort 1 = .ok (.iload_n 1, 1) := by decide +kernel
theorem dX8_sort_2 : decode cX8_sort 2 = .ok (.iconst 3, 1) := by decide +kernel
theorem dX8_sort_3 : decode cX8_sort 3 = .ok (.invokevirtual 42, 3) := by decide +kernel
theorem dX8_sort_6 : decode cX8_sort 6 = .ok (.ireturn, 1) := by decide +kernel
theorem dX8_sure_0 : decode cX8_sure 0 = .ok (.aload_n 0, 1) := by decide +kernel
theorem dX8_sure_1 : decode cX8_sure 1 = .ok (.iload_n 1, 1) := by decide +kernel
theorem dX8_sure_2 : decode cX8_sure 2 = .ok (.iconst 4, 1) := by decide +kernel
theorem dX8_sure_3 : decode cX8_sure 3 = .ok (.invokevirtual 42, 3) := by decide +kernel
theorem dX8_sure_6 : decode cX8_sure 6 = .ok (.ireturn, 1) := by decide +kernel
theorem dX8_region_0 : decode cX8_region 0 = .ok (.aload_n 0, 1) := by decide +kernel
theorem dX8_region_1 : decode cX8_region 1 = .ok (.iload_n 1, 1) := by decide +kernel
theorem dX8_region_2 : decode cX8_region 2 = .ok (.iconst 2, 1) := by decide +kernel
theorem dX8_region_3 : decode cX8_region 3 = .ok (.invokevirtual 42, 3) := by decide +kernel
theorem dX8_region_6 : decode cX8_region 6 = .ok (.istore_n 2, 1) := by decide +kernel
theorem dX8_region_7 : decode cX8_region 7 = .ok (.aload_n 0, 1) := by decide +kernel
theorem dX8_region_8 : decode cX8_region 8 = .ok (.iload_n 1, 1) := by decide +kernel
theorem dX8_region_9 : decode cX8_region 9 = .ok (.iconst 1, 1) := by decide +kernel
theorem dX8_region_10 : decode cX8_region 10 = .ok (.invokevirtual 42, 3) := by decide +kernel
theorem dX8_region_13 : decode cX8_region 13 = .ok (.ifCond .ne 15, 3) := by decide +kernel
theorem dX8_region_16 : decode cX8_region 16 = .ok (.aload_n 0, 1) := by decide +kernel
theorem dX8_region_17 : decode cX8_region 17 = .ok (.getfield 12, 3) := by decide +kernel
theorem dX8_region_20 : decode cX8_region 20 = .ok (.getfield 46, 3) := by decide +kernel
theorem dX8_region_23 : decode cX8_region 23 = .ok (.iload_n 2, 1) := by decide +kernel
theorem dX8_region_24 : decode cX8_region 24 = .ok (.laload, 1) := by decide +kernel
theorem dX8_region_25 : decode cX8_region 25 = .ok (.goto 12, 3) := by decide +kernel
theorem dX8_region_28 : decode cX8_region 28 = .ok (.aload_n 0, 1) := by decide +kernel
theorem dX8_region_29 : decode cX8_region 29 = .ok (.getfield 12, 3) := by decide +kernel
theorem dX8_region_32 : decode cX8_region 32 = .ok (.getfield 50, 3) := by decide +kernel
theorem dX8_region_35 : decode cX8_region 35 = .ok (.iload_n 2, 1) := by decide +kernel
theorem dX8_region_36 : decode cX8_region 36 = .ok (.laload, 1) := by decide +kernel
theorem dX8_region_37 : decode cX8_region 37 = .ok (.lreturn, 1) := by decide +kernel
theorem dX8_draw_0 : decode cX8_draw 0 = .ok (.aload_n 0, 1) := by decide +kernel
theorem dX8_draw_1 : decode cX8_draw 1 = .ok (.aload_n 0, 1) := by decide +kernel
theorem dX8_draw_2 : decode cX8_draw 2 = .ok (.getfield 39, 3) := by decide +kernel
theorem dX8_draw_5 : decode cX8_draw 5 = .ok (.i2l, 1) := by decide +kernel
theorem dX8_draw_6 : decode cX8_draw 6 = .ok (.ldc2_w 53, 3) := by decide +kernel
theorem dX8_draw_9 : decode cX8_draw 9 = .ok (.lmul, 1) := by decide +kernel
theorem dX8_draw_10 : decode cX8_draw 10 = .ok (.ldc2_w 55, 3) := by decide +kernel
theorem dX8_draw_13 : decode cX8_draw 13 = .ok (.ladd, 1) := by decide +kernel
theorem dX8_draw_14 : decode cX8_draw 14 = .ok (.ldc2_w 57, 3) := by decide +kernel
theorem dX8_draw_17 : decode cX8_draw 17 = .ok (.lrem, 1) := by decide +kernel
theorem dX8_draw_18 : decode cX8_draw 18 = .ok (.l2i, 1) := by decide +kernel
theorem dX8_draw_19 : decode cX8_draw 19 = .ok (.putfield 39, 3) := by decide +kernel
theorem dX8_draw_22 : decode cX8_draw 22 = .ok (.aload_n 0, 1) := by decide +kernel
theorem dX8_draw_23 : decode cX8_draw 23 = .ok (.getfield 39, 3) := by decide +kernel
theorem dX8_draw_26 : decode cX8_draw 26 = .ok (.ldc 59, 2) := by decide +kernel
theorem dX8_draw_28 : decode cX8_draw 28 = .ok (.idiv, 1) := by decide +kernel
theorem dX8_draw_29 : decode cX8_draw 29 = .ok (.ireturn, 1) := by decide +kernel
theorem dX9_init_0 : decode cX9_init 0 = .ok (.aload_n 0, 1) := by decide +kernel
theorem dX9_init_1 : decode cX9_init 1 = .ok (.invokespecial 3, 3) := by decide +kernel
theorem dX9_init_4 : decode cX9_init 4 = .ok (.aload_n 0, 1) := by decide +kernel
theorem dX9_init_5 : decode cX9_init 5 = .ok (.sipush 400, 3) := by decide +kernel
theorem dX9_init_8 : decode cX9_init 8 = .ok (.newarray .int, 2) := by decide +kernel
theorem dX9_init_10 : decode cX9_init 10 = .ok (.putfield 11, 3) := by decide +kernel
theorem dX9_init_13 : decode cX9_init 13 = .ok (.return_, 1) := by decide +kernel
theorem dX9_append_0 : decode cX9_append 0 = .ok (.bipush 24, 2) := by decide +kernel
theorem dX9_append_2 : decode cX9_append 2 = .ok (.istore_n 2, 1) := by decide +kernel
theorem dX9_append_3 : decode cX9_append 3 = .ok (.iload_n 2, 1) := by decide +kernel
theorem dX9_append_4 : decode cX9_append 4 = .ok (.ifCond .lt 45, 3) := by decide +kernel
theorem dX9_append_7 : decode cX9_append 7 = .ok (.aload_n 0, 1) := by decide +kernel
theorem dX9_append_8 : decode cX9_append 8 = .ok (.getfield 15, 3) := by decide +kernel
theorem dX9_append_11 : decode cX9_append 11 = .ok (.sipush 400, 3) := by decide +kernel
theorem dX9_append_14 : decode cX9_append 14 = .ok (.if_icmp .ge 35, 3) := by decide +kernel
theorem dX9_append_17 : decode cX9_append 17 = .ok (.aload_n 0, 1) := by decide +kernel
theorem dX9_append_18 : decode cX9_append 18 = .ok (.getfield 11, 3) := by decide +kernel
theorem dX9_append_21 : decode cX9_append 21 = .ok (.aload_n 0, 1) := by decide +kernel
theorem dX9_append_22 : decode cX9_append 22 = .ok (.getfield 15, 3) := by decide +kernel
theorem dX9_append_25 : decode cX9_append 25 = .ok (.iload_n 1, 1) := by decide +kernel
theorem dX9_append_26 : decode cX9_append 26 = .ok (.iload_n 2, 1) := by decide +kernel
theorem dX9_append_27 : decode cX9_append 27 = .ok (.iushr, 1) := by decide +kernel
theorem dX9_append_28 : decode cX9_append 28 = .ok (.sipush 255, 3) := by decide +kernel
theorem dX9_append_31 : decode cX9_append 31 = .ok (.iand, 1) := by decide +kernel
theorem dX9_append_32 : decode cX9_append 32 = .ok (.iastore, 1) := by decide +kernel
theorem dX9_append_33 : decode cX9_append 33 = .ok (.aload_n 0, 1) := by decide +kernel
theorem dX9_append_34 : decode cX9_append 34 = .ok (.dup, 1) := by decide +kernel
theorem dX9_append_35 : decode cX9_append 35 = .ok (.getfield 15, 3) := by decide +kernel
theorem dX9_append_38 : decode cX9_append 38 = .ok (.iconst 1, 1) := by decide +kernel
theorem dX9_append_39 : decode cX9_append 39 = .ok (.iadd, 1) := by decide +kernel
theorem dX9_append_40 : decode cX9_append 40 = .ok (.putfield 15, 3) := by decide +kernel
theorem dX9_append_43 : decode cX9_append 43 = .ok (.iinc 2 (-8), 3) := by decide +kernel
theorem dX9_append_46 : decode cX9_append 46 = .ok (.goto (-43), 3) := by decide +kernel
theorem dX9_append_49 : decode cX9_append 49 = .ok (.return_, 1) := by decide +kernel
theorem dX9_begin_0 : decode cX9_begin 0 = .ok (.aload_n 0, 1) := by decide +kernel
theorem dX9_begin_1 : decode cX9_begin 1 = .ok (.iconst 0, 1) := by decide +kernel
theorem dX9_begin_2 : decode cX9_begin 2 = .ok (.putfield 19, 3) := by decide +kernel
theorem dX9_begin_5 : decode cX9_begin 5 = .ok (.aload_n 0, 1) := by decide +kernel
theorem dX9_begin_6 : decode cX9_begin 6 = .ok (.iconst 0, 1) := by decide +kernel
theorem dX9_begin_7 : decode cX9_begin 7 = .ok (.putfield 22, 3) := by decide +kernel
theorem dX9_begin_10 : decode cX9_begin 10 = .ok (.aload_n 0, 1) := by decide +kernel
theorem dX9_begin_11 : decode cX9_begin 11 = .ok (.invokevirtual 25, 3) := by decide +kernel
theorem dX9_begin_14 : decode cX9_begin 14 = .ok (.return_, 1) := by decide +kernel
