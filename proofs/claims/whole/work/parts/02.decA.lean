theorem dX0_init_0 : decode cX0_init 0 = .ok (.aload_n 0, 1) := by decide +kernel
theorem dX0_init_1 : decode cX0_init 1 = .ok (.invokespecial 3, 3) := by decide +kernel
theorem dX0_init_4 : decode cX0_init 4 = .ok (.aload_n 0, 1) := by decide +kernel
theorem dX0_init_5 : decode cX0_init 5 = .ok (.bipush 8, 2) := by decide +kernel
theorem dX0_init_7 : decode cX0_init 7 = .ok (.newarray .int, 2) := by decide +kernel
theorem dX0_init_9 : decode cX0_init 9 = .ok (.putfield 9, 3) := by decide +kernel
theorem dX0_init_12 : decode cX0_init 12 = .ok (.aload_n 0, 1) := by decide +kernel
theorem dX0_init_13 : decode cX0_init 13 = .ok (.bipush 8, 2) := by decide +kernel
theorem dX0_init_15 : decode cX0_init 15 = .ok (.newarray .int, 2) := by decide +kernel
theorem dX0_init_17 : decode cX0_init 17 = .ok (.putfield 15, 3) := by decide +kernel
theorem dX0_init_20 : decode cX0_init 20 = .ok (.aload_n 0, 1) := by decide +kernel
theorem dX0_init_21 : decode cX0_init 21 = .ok (.bipush 8, 2) := by decide +kernel
theorem dX0_init_23 : decode cX0_init 23 = .ok (.newarray .int, 2) := by decide +kernel
theorem dX0_init_25 : decode cX0_init 25 = .ok (.putfield 18, 3) := by decide +kernel
theorem dX0_init_28 : decode cX0_init 28 = .ok (.return_, 1) := by decide +kernel
theorem dX0_copy_0 : decode cX0_copy 0 = .ok (.aload_n 0, 1) := by decide +kernel
theorem dX0_copy_1 : decode cX0_copy 1 = .ok (.aload_n 1, 1) := by decide +kernel
theorem dX0_copy_2 : decode cX0_copy 2 = .ok (.getfield 21, 3) := by decide +kernel
theorem dX0_copy_5 : decode cX0_copy 5 = .ok (.putfield 21, 3) := by decide +kernel
theorem dX0_copy_8 : decode cX0_copy 8 = .ok (.aload_n 0, 1) := by decide +kernel
theorem dX0_copy_9 : decode cX0_copy 9 = .ok (.aload_n 1, 1) := by decide +kernel
theorem dX0_copy_10 : decode cX0_copy 10 = .ok (.getfield 25, 3) := by decide +kernel
theorem dX0_copy_13 : decode cX0_copy 13 = .ok (.putfield 25, 3) := by decide +kernel
theorem dX0_copy_16 : decode cX0_copy 16 = .ok (.aload_n 0, 1) := by decide +kernel
theorem dX0_copy_17 : decode cX0_copy 17 = .ok (.aload_n 1, 1) := by decide +kernel
theorem dX0_copy_18 : decode cX0_copy 18 = .ok (.getfield 29, 3) := by decide +kernel
theorem dX0_copy_21 : decode cX0_copy 21 = .ok (.putfield 29, 3) := by decide +kernel
theorem dX0_copy_24 : decode cX0_copy 24 = .ok (.aload_n 0, 1) := by decide +kernel
theorem dX0_copy_25 : decode cX0_copy 25 = .ok (.aload_n 1, 1) := by decide +kernel
theorem dX0_copy_26 : decode cX0_copy 26 = .ok (.getfield 32, 3) := by decide +kernel
theorem dX0_copy_29 : decode cX0_copy 29 = .ok (.putfield 32, 3) := by decide +kernel
theorem dX0_copy_32 : decode cX0_copy 32 = .ok (.aload_n 1, 1) := by decide +kernel
theorem dX0_copy_33 : decode cX0_copy 33 = .ok (.getfield 9, 3) := by decide +kernel
theorem dX0_copy_36 : decode cX0_copy 36 = .ok (.iconst 0, 1) := by decide +kernel
theorem dX0_copy_37 : decode cX0_copy 37 = .ok (.aload_n 0, 1) := by decide +kernel
theorem dX0_copy_38 : decode cX0_copy 38 = .ok (.getfield 9, 3) := by decide +kernel
theorem dX0_copy_41 : decode cX0_copy 41 = .ok (.iconst 0, 1) := by decide +kernel
theorem dX0_copy_42 : decode cX0_copy 42 = .ok (.invokestatic 35, 3) := by decide +kernel
theorem dX0_copy_45 : decode cX0_copy 45 = .ok (.aload_n 1, 1) := by decide +kernel
theorem dX0_copy_46 : decode cX0_copy 46 = .ok (.getfield 15, 3) := by decide +kernel
theorem dX0_copy_49 : decode cX0_copy 49 = .ok (.iconst 0, 1) := by decide +kernel
theorem dX0_copy_50 : decode cX0_copy 50 = .ok (.aload_n 0, 1) := by decide +kernel
theorem dX0_copy_51 : decode cX0_copy 51 = .ok (.getfield 15, 3) := by decide +kernel
theorem dX0_copy_54 : decode cX0_copy 54 = .ok (.iconst 0, 1) := by decide +kernel
theorem dX0_copy_55 : decode cX0_copy 55 = .ok (.invokestatic 35, 3) := by decide +kernel
theorem dX0_copy_58 : decode cX0_copy 58 = .ok (.aload_n 1, 1) := by decide +kernel
theorem dX0_copy_59 : decode cX0_copy 59 = .ok (.getfield 18, 3) := by decide +kernel
theorem dX0_copy_62 : decode cX0_copy 62 = .ok (.iconst 0, 1) := by decide +kernel
theorem dX0_copy_63 : decode cX0_copy 63 = .ok (.aload_n 0, 1) := by decide +kernel
theorem dX0_copy_64 : decode cX0_copy 64 = .ok (.getfield 18, 3) := by decide +kernel
theorem dX0_copy_67 : decode cX0_copy 67 = .ok (.iconst 0, 1) := by decide +kernel
theorem dX0_copy_68 : decode cX0_copy 68 = .ok (.invokestatic 35, 3) := by decide +kernel
theorem dX0_copy_71 : decode cX0_copy 71 = .ok (.return_, 1) := by decide +kernel
theorem dX2_init_0 : decode cX2_init 0 = .ok (.aload_n 0, 1) := by decide +kernel
theorem dX2_init_1 : decode cX2_init 1 = .ok (.invokespecial 3, 3) := by decide +kernel
theorem dX2_init_4 : decode cX2_init 4 = .ok (.aload_n 0, 1) := by decide +kernel
theorem dX2_init_5 : decode cX2_init 5 = .ok (.sipush 400, 3) := by decide +kernel
theorem dX2_init_8 : decode cX2_init 8 = .ok (.newarray .int, 2) := by decide +kernel
theorem dX2_init_10 : decode cX2_init 10 = .ok (.putfield 9, 3) := by decide +kernel
theorem dX2_init_13 : decode cX2_init 13 = .ok (.aload_n 0, 1) := by decide +kernel
theorem dX2_init_14 : decode cX2_init 14 = .ok (.sipush 3200, 3) := by decide +kernel
theorem dX2_init_17 : decode cX2_init 17 = .ok (.newarray .int, 2) := by decide +kernel
theorem dX2_init_19 : decode cX2_init 19 = .ok (.putfield 15, 3) := by decide +kernel
theorem dX2_init_22 : decode cX2_init 22 = .ok (.aload_n 0, 1) := by decide +kernel
theorem dX2_init_23 : decode cX2_init 23 = .ok (.sipush 400, 3) := by decide +kernel
theorem dX2_init_26 : decode cX2_init 26 = .ok (.newarray .int, 2) := by decide +kernel
theorem dX2_init_28 : decode cX2_init 28 = .ok (.putfield 18, 3) := by decide +kernel
theorem dX2_init_31 : decode cX2_init 31 = .ok (.return_, 1) := by decide +kernel
theorem dX2_find_0 : decode cX2_find 0 = .ok (.iconst 0, 1) := by decide +kernel
theorem dX2_find_1 : decode cX2_find 1 = .ok (.istore_n 2, 1) := by decide +kernel
theorem dX2_find_2 : decode cX2_find 2 = .ok (.iload_n 2, 1) := by decide +kernel
theorem dX2_find_3 : decode cX2_find 3 = .ok (.aload_n 0, 1) := by decide +kernel
theorem dX2_find_4 : decode cX2_find 4 = .ok (.getfield 21, 3) := by decide +kernel
theorem dX2_find_7 : decode cX2_find 7 = .ok (.if_icmp .ge 21, 3) := by decide +kernel
theorem dX2_find_10 : decode cX2_find 10 = .ok (.aload_n 0, 1) := by decide +kernel
theorem dX2_find_11 : decode cX2_find 11 = .ok (.getfield 9, 3) := by decide +kernel
theorem dX2_find_14 : decode cX2_find 14 = .ok (.iload_n 2, 1) := by decide +kernel
theorem dX2_find_15 : decode cX2_find 15 = .ok (.iaload, 1) := by decide +kernel
theorem dX2_find_16 : decode cX2_find 16 = .ok (.iload_n 1, 1) := by decide +kernel
theorem dX2_find_17 : decode cX2_find 17 = .ok (.if_icmp .ne 5, 3) := by decide +kernel
theorem dX2_find_20 : decode cX2_find 20 = .ok (.iload_n 2, 1) := by decide +kernel
theorem dX2_find_21 : decode cX2_find 21 = .ok (.ireturn, 1) := by decide +kernel
theorem dX2_find_22 : decode cX2_find 22 = .ok (.iinc 2 1, 3) := by decide +kernel
theorem dX2_find_25 : decode cX2_find 25 = .ok (.goto (-23), 3) := by decide +kernel
theorem dX2_find_28 : decode cX2_find 28 = .ok (.iconst (-1), 1) := by decide +kernel
theorem dX2_find_29 : decode cX2_find 29 = .ok (.ireturn, 1) := by decide +kernel
theorem dX2_keyOf_0 : decode cX2_keyOf 0 = .ok (.iload_n 1, 1) := by decide +kernel
theorem dX2_keyOf_1 : decode cX2_keyOf 1 = .ok (.ifCond .lt 20, 3) := by decide +kernel
theorem dX2_keyOf_4 : decode cX2_keyOf 4 = .ok (.iload_n 1, 1) := by decide +kernel
theorem dX2_keyOf_5 : decode cX2_keyOf 5 = .ok (.aload_n 0, 1) := by decide +kernel
theorem dX2_keyOf_6 : decode cX2_keyOf 6 = .ok (.getfield 21, 3) := by decide +kernel
theorem dX2_keyOf_9 : decode cX2_keyOf 9 = .ok (.if_icmp .ge 12, 3) := by decide +kernel
theorem dX2_keyOf_12 : decode cX2_keyOf 12 = .ok (.aload_n 0, 1) := by decide +kernel
theorem dX2_keyOf_13 : decode cX2_keyOf 13 = .ok (.getfield 9, 3) := by decide +kernel
theorem dX2_keyOf_16 : decode cX2_keyOf 16 = .ok (.iload_n 1, 1) := by decide +kernel
theorem dX2_keyOf_17 : decode cX2_keyOf 17 = .ok (.iaload, 1) := by decide +kernel
theorem dX2_keyOf_18 : decode cX2_keyOf 18 = .ok (.goto 4, 3) := by decide +kernel
theorem dX2_keyOf_21 : decode cX2_keyOf 21 = .ok (.iconst 0, 1) := by decide +kernel
theorem dX2_keyOf_22 : decode cX2_keyOf 22 = .ok (.ireturn, 1) := by decide +kernel
theorem dX2_learn_0 : decode cX2_learn 0 = .ok (.aload_n 0, 1) := by decide +kernel
theorem dX2_learn_1 : decode cX2_learn 1 = .ok (.iload_n 2, 1) := by decide +kernel
theorem dX2_learn_2 : decode cX2_learn 2 = .ok (.invokevirtual 25, 3) := by decide +kernel
theorem dX2_learn_5 : decode cX2_learn 5 = .ok (.istore_n 3, 1) := by decide +kernel
theorem dX2_learn_6 : decode cX2_learn 6 = .ok (.iload_n 3, 1) := by decide +kernel
theorem dX2_learn_7 : decode cX2_learn 7 = .ok (.iconst (-1), 1) := by decide +kernel
theorem dX2_learn_8 : decode cX2_learn 8 = .ok (.if_icmp .ne 13, 3) := by decide +kernel
theorem dX2_learn_11 : decode cX2_learn 11 = .ok (.aload_n 0, 1) := by decide +kernel
theorem dX2_learn_12 : decode cX2_learn 12 = .ok (.getfield 21, 3) := by decide +kernel
theorem dX2_learn_15 : decode cX2_learn 15 = .ok (.sipush 400, 3) := by decide +kernel
theorem dX2_learn_18 : decode cX2_learn 18 = .ok (.if_icmp .lt 5, 3) := by decide +kernel
theorem dX2_learn_21 : decode cX2_learn 21 = .ok (.iload_n 3, 1) := by decide +kernel
theorem dX2_learn_22 : decode cX2_learn 22 = .ok (.ireturn, 1) := by decide +kernel
theorem dX2_learn_23 : decode cX2_learn 23 = .ok (.aload_n 0, 1) := by decide +kernel
theorem dX2_learn_24 : decode cX2_learn 24 = .ok (.getfield 9, 3) := by decide +kernel
theorem dX2_learn_27 : decode cX2_learn 27 = .ok (.aload_n 0, 1) := by decide +kernel
theorem dX2_learn_28 : decode cX2_learn 28 = .ok (.getfield 21, 3) := by decide +kernel
theorem dX2_learn_31 : decode cX2_learn 31 = .ok (.iload_n 2, 1) := by decide +kernel
theorem dX2_learn_32 : decode cX2_learn 32 = .ok (.iastore, 1) := by decide +kernel
theorem dX2_learn_33 : decode cX2_learn 33 = .ok (.aload_n 1, 1) := by decide +kernel
theorem dX2_learn_34 : decode cX2_learn 34 = .ok (.iload_n 2, 1) := by decide +kernel
theorem dX2_learn_35 : decode cX2_learn 35 = .ok (.aload_n 0, 1) := by decide +kernel
theorem dX2_learn_36 : decode cX2_learn 36 = .ok (.getfield 15, 3) := by decide +kernel
theorem dX2_learn_39 : decode cX2_learn 39 = .ok (.aload_n 0, 1) := by decide +kernel
theorem dX2_learn_40 : decode cX2_learn 40 = .ok (.getfield 21, 3) := by decide +kernel
theorem dX2_learn_43 : decode cX2_learn 43 = .ok (.invokevirtual 29, 3) := by decide +kernel
theorem dX2_learn_46 : decode cX2_learn 46 = .ok (.aload_n 0, 1) := by decide +kernel
theorem dX2_learn_47 : decode cX2_learn 47 = .ok (.getfield 21, 3) := by decide +kernel
theorem dX2_learn_50 : decode cX2_learn 50 = .ok (.istore 4, 2) := by decide +kernel
theorem dX2_learn_52 : decode cX2_learn 52 = .ok (.iload 4, 2) := by decide +kernel
theorem dX2_learn_54 : decode cX2_learn 54 = .ok (.ifCond .le 45, 3) := by decide +kernel
theorem dX2_learn_57 : decode cX2_learn 57 = .ok (.aload_n 0, 1) := by decide +kernel
theorem dX2_learn_58 : decode cX2_learn 58 = .ok (.aload_n 0, 1) := by decide +kernel
theorem dX2_learn_59 : decode cX2_learn 59 = .ok (.getfield 21, 3) := by decide +kernel
theorem dX2_learn_62 : decode cX2_learn 62 = .ok (.aload_n 0, 1) := by decide +kernel
theorem dX2_learn_63 : decode cX2_learn 63 = .ok (.getfield 18, 3) := by decide +kernel
theorem dX2_learn_66 : decode cX2_learn 66 = .ok (.iload 4, 2) := by decide +kernel
theorem dX2_learn_68 : decode cX2_learn 68 = .ok (.iconst 1, 1) := by decide +kernel
theorem dX2_learn_69 : decode cX2_learn 69 = .ok (.isub, 1) := by decide +kernel
theorem dX2_learn_70 : decode cX2_learn 70 = .ok (.iaload, 1) := by decide +kernel
theorem dX2_learn_71 : decode cX2_learn 71 = .ok (.invokevirtual 35, 3) := by decide +kernel
theorem dX2_learn_74 : decode cX2_learn 74 = .ok (.ifCond .eq 25, 3) := by decide +kernel
theorem dX2_learn_77 : decode cX2_learn 77 = .ok (.aload_n 0, 1) := by decide +kernel
theorem dX2_learn_78 : decode cX2_learn 78 = .ok (.getfield 18, 3) := by decide +kernel
theorem dX2_learn_81 : decode cX2_learn 81 = .ok (.iload 4, 2) := by decide +kernel
theorem dX2_learn_83 : decode cX2_learn 83 = .ok (.aload_n 0, 1) := by decide +kernel
theorem dX2_learn_84 : decode cX2_learn 84 = .ok (.getfield 18, 3) := by decide +kernel
theorem dX2_learn_87 : decode cX2_learn 87 = .ok (.iload 4, 2) := by decide +kernel
theorem dX2_learn_89 : decode cX2_learn 89 = .ok (.iconst 1, 1) := by decide +kernel
theorem dX2_learn_90 : decode cX2_learn 90 = .ok (.isub, 1) := by decide +kernel
theorem dX2_learn_91 : decode cX2_learn 91 = .ok (.iaload, 1) := by decide +kernel
theorem dX2_learn_92 : decode cX2_learn 92 = .ok (.iastore, 1) := by decide +kernel
theorem dX2_learn_93 : decode cX2_learn 93 = .ok (.iinc 4 (-1), 3) := by decide +kernel
theorem dX2_learn_96 : decode cX2_learn 96 = .ok (.goto (-44), 3) := by decide +kernel
theorem dX2_learn_99 : decode cX2_learn 99 = .ok (.aload_n 0, 1) := by decide +kernel
theorem dX2_learn_100 : decode cX2_learn 100 = .ok (.getfield 18, 3) := by decide +kernel
theorem dX2_learn_103 : decode cX2_learn 103 = .ok (.iload 4, 2) := by decide +kernel
theorem dX2_learn_105 : decode cX2_learn 105 = .ok (.aload_n 0, 1) := by decide +kernel
theorem dX2_learn_106 : decode cX2_learn 106 = .ok (.getfield 21, 3) := by decide +kernel
theorem dX2_learn_109 : decode cX2_learn 109 = .ok (.iastore, 1) := by decide +kernel
theorem dX2_learn_110 : decode cX2_learn 110 = .ok (.aload_n 0, 1) := by decide +kernel
theorem dX2_learn_111 : decode cX2_learn 111 = .ok (.dup, 1) := by decide +kernel
theorem dX2_learn_112 : decode cX2_learn 112 = .ok (.getfield 21, 3) := by decide +kernel
theorem dX2_learn_115 : decode cX2_learn 115 = .ok (.iconst 1, 1) := by decide +kernel
theorem dX2_learn_116 : decode cX2_learn 116 = .ok (.iadd, 1) := by decide +kernel
theorem dX2_learn_117 : decode cX2_learn 117 = .ok (.putfield 21, 3) := by decide +kernel
theorem dX2_learn_120 : decode cX2_learn 120 = .ok (.aload_n 0, 1) := by decide +kernel
theorem dX2_learn_121 : decode cX2_learn 121 = .ok (.getfield 21, 3) := by decide +kernel
theorem dX2_learn_124 : decode cX2_learn 124 = .ok (.iconst 1, 1) := by decide +kernel
theorem dX2_learn_125 : decode cX2_learn 125 = .ok (.isub, 1) := by decide +kernel
theorem dX2_learn_126 : decode cX2_learn 126 = .ok (.ireturn, 1) := by decide +kernel
theorem dX2_isAhead_0 : decode cX2_isAhead 0 = .ok (.iconst 0, 1) := by decide +kernel
theorem dX2_isAhead_1 : decode cX2_isAhead 1 = .ok (.istore_n 3, 1) := by decide +kernel
theorem dX2_isAhead_2 : decode cX2_isAhead 2 = .ok (.iload_n 3, 1) := by decide +kernel
theorem dX2_isAhead_3 : decode cX2_isAhead 3 = .ok (.bipush 8, 2) := by decide +kernel
theorem dX2_isAhead_5 : decode cX2_isAhead 5 = .ok (.if_icmp .ge 61, 3) := by decide +kernel
theorem dX2_isAhead_8 : decode cX2_isAhead 8 = .ok (.aload_n 0, 1) := by decide +kernel
theorem dX2_isAhead_9 : decode cX2_isAhead 9 = .ok (.getfield 15, 3) := by decide +kernel
theorem dX2_isAhead_12 : decode cX2_isAhead 12 = .ok (.iload_n 1, 1) := by decide +kernel
theorem dX2_isAhead_13 : decode cX2_isAhead 13 = .ok (.bipush 8, 2) := by decide +kernel
theorem dX2_isAhead_15 : decode cX2_isAhead 15 = .ok (.imul, 1) := by decide +kernel
theorem dX2_isAhead_16 : decode cX2_isAhead 16 = .ok (.iload_n 3, 1) := by decide +kernel
theorem dX2_isAhead_17 : decode cX2_isAhead 17 = .ok (.iadd, 1) := by decide +kernel
theorem dX2_isAhead_18 : decode cX2_isAhead 18 = .ok (.iaload, 1) := by decide +kernel
theorem dX2_isAhead_19 : decode cX2_isAhead 19 = .ok (.istore 4, 2) := by decide +kernel
theorem dX2_isAhead_21 : decode cX2_isAhead 21 = .ok (.aload_n 0, 1) := by decide +kernel
theorem dX2_isAhead_22 : decode cX2_isAhead 22 = .ok (.getfield 15, 3) := by decide +kernel
theorem dX2_isAhead_25 : decode cX2_isAhead 25 = .ok (.iload_n 2, 1) := by decide +kernel
theorem dX2_isAhead_26 : decode cX2_isAhead 26 = .ok (.bipush 8, 2) := by decide +kernel
theorem dX2_isAhead_28 : decode cX2_isAhead 28 = .ok (.imul, 1) := by decide +kernel
theorem dX2_isAhead_29 : decode cX2_isAhead 29 = .ok (.iload_n 3, 1) := by decide +kernel
theorem dX2_isAhead_30 : decode cX2_isAhead 30 = .ok (.iadd, 1) := by decide +kernel
theorem dX2_isAhead_31 : decode cX2_isAhead 31 = .ok (.iaload, 1) := by decide +kernel
theorem dX2_isAhead_32 : decode cX2_isAhead 32 = .ok (.istore 5, 2) := by decide +kernel
theorem dX2_isAhead_34 : decode cX2_isAhead 34 = .ok (.iload 4, 2) := by decide +kernel
theorem dX2_isAhead_36 : decode cX2_isAhead 36 = .ok (.iload 5, 2) := by decide +kernel
theorem dX2_isAhead_38 : decode cX2_isAhead 38 = .ok (.if_icmp .eq 22, 3) := by decide +kernel
theorem dX2_isAhead_41 : decode cX2_isAhead 41 = .ok (.iload 4, 2) := by decide +kernel
theorem dX2_isAhead_43 : decode cX2_isAhead 43 = .ok (.ldc 39, 2) := by decide +kernel
theorem dX2_isAhead_45 : decode cX2_isAhead 45 = .ok (.ixor, 1) := by decide +kernel
theorem dX2_isAhead_46 : decode cX2_isAhead 46 = .ok (.iload 5, 2) := by decide +kernel
theorem dX2_isAhead_48 : decode cX2_isAhead 48 = .ok (.ldc 39, 2) := by decide +kernel
theorem dX2_isAhead_50 : decode cX2_isAhead 50 = .ok (.ixor, 1) := by decide +kernel
theorem dX2_isAhead_51 : decode cX2_isAhead 51 = .ok (.if_icmp .ge 7, 3) := by decide +kernel
theorem dX2_isAhead_54 : decode cX2_isAhead 54 = .ok (.iconst 1, 1) := by decide +kernel
theorem dX2_isAhead_55 : decode cX2_isAhead 55 = .ok (.goto 4, 3) := by decide +kernel
theorem dX2_isAhead_58 : decode cX2_isAhead 58 = .ok (.iconst 0, 1) := by decide +kernel
theorem dX2_isAhead_59 : decode cX2_isAhead 59 = .ok (.ireturn, 1) := by decide +kernel
theorem dX2_isAhead_60 : decode cX2_isAhead 60 = .ok (.iinc 3 1, 3) := by decide +kernel
theorem dX2_isAhead_63 : decode cX2_isAhead 63 = .ok (.goto (-61), 3) := by decide +kernel
theorem dX2_isAhead_66 : decode cX2_isAhead 66 = .ok (.iconst 0, 1) := by decide +kernel
theorem dX2_isAhead_67 : decode cX2_isAhead 67 = .ok (.ireturn, 1) := by decide +kernel
theorem dX2_copyFirst_0 : decode cX2_copyFirst 0 = .ok (.aload_n 1, 1) := by decide +kernel
theorem dX2_copyFirst_1 : decode cX2_copyFirst 1 = .ok (.getfield 9, 3) := by decide +kernel
theorem dX2_copyFirst_4 : decode cX2_copyFirst 4 = .ok (.iconst 0, 1) := by decide +kernel
theorem dX2_copyFirst_5 : decode cX2_copyFirst 5 = .ok (.aload_n 0, 1) := by decide +kernel
theorem dX2_copyFirst_6 : decode cX2_copyFirst 6 = .ok (.getfield 9, 3) := by decide +kernel
theorem dX2_copyFirst_9 : decode cX2_copyFirst 9 = .ok (.iconst 0, 1) := by decide +kernel
theorem dX2_copyFirst_10 : decode cX2_copyFirst 10 = .ok (.iload_n 2, 1) := by decide +kernel
theorem dX2_copyFirst_11 : decode cX2_copyFirst 11 = .ok (.invokestatic 40, 3) := by decide +kernel
theorem dX2_copyFirst_14 : decode cX2_copyFirst 14 = .ok (.aload_n 1, 1) := by decide +kernel
theorem dX2_copyFirst_15 : decode cX2_copyFirst 15 = .ok (.getfield 15, 3) := by decide +kernel
theorem dX2_copyFirst_18 : decode cX2_copyFirst 18 = .ok (.iconst 0, 1) := by decide +kernel
theorem dX2_copyFirst_19 : decode cX2_copyFirst 19 = .ok (.aload_n 0, 1) := by decide +kernel
theorem dX2_copyFirst_20 : decode cX2_copyFirst 20 = .ok (.getfield 15, 3) := by decide +kernel
theorem dX2_copyFirst_23 : decode cX2_copyFirst 23 = .ok (.iconst 0, 1) := by decide +kernel
theorem dX2_copyFirst_24 : decode cX2_copyFirst 24 = .ok (.iload_n 2, 1) := by decide +kernel
theorem dX2_copyFirst_25 : decode cX2_copyFirst 25 = .ok (.bipush 8, 2) := by decide +kernel
theorem dX2_copyFirst_27 : decode cX2_copyFirst 27 = .ok (.imul, 1) := by decide +kernel
theorem dX2_copyFirst_28 : decode cX2_copyFirst 28 = .ok (.invokestatic 40, 3) := by decide +kernel
theorem dX2_copyFirst_31 : decode cX2_copyFirst 31 = .ok (.aload_n 0, 1) := by decide +kernel
theorem dX2_copyFirst_32 : decode cX2_copyFirst 32 = .ok (.iconst 0, 1) := by decide +kernel
theorem dX2_copyFirst_33 : decode cX2_copyFirst 33 = .ok (.putfield 21, 3) := by decide +kernel
theorem dX2_copyFirst_36 : decode cX2_copyFirst 36 = .ok (.iconst 0, 1) := by decide +kernel
theorem dX2_copyFirst_37 : decode cX2_copyFirst 37 = .ok (.istore_n 3, 1) := by decide +kernel
theorem dX2_copyFirst_38 : decode cX2_copyFirst 38 = .ok (.iload_n 3, 1) := by decide +kernel
theorem dX2_copyFirst_39 : decode cX2_copyFirst 39 = .ok (.aload_n 1, 1) := by decide +kernel
theorem dX2_copyFirst_40 : decode cX2_copyFirst 40 = .ok (.getfield 21, 3) := by decide +kernel
theorem dX2_copyFirst_43 : decode cX2_copyFirst 43 = .ok (.if_icmp .ge 52, 3) := by decide +kernel
theorem dX2_copyFirst_46 : decode cX2_copyFirst 46 = .ok (.aload_n 0, 1) := by decide +kernel
theorem dX2_copyFirst_47 : decode cX2_copyFirst 47 = .ok (.getfield 21, 3) := by decide +kernel
theorem dX2_copyFirst_50 : decode cX2_copyFirst 50 = .ok (.iload_n 2, 1) := by decide +kernel
theorem dX2_copyFirst_51 : decode cX2_copyFirst 51 = .ok (.if_icmp .ge 44, 3) := by decide +kernel
theorem dX2_copyFirst_54 : decode cX2_copyFirst 54 = .ok (.aload_n 1, 1) := by decide +kernel
theorem dX2_copyFirst_55 : decode cX2_copyFirst 55 = .ok (.getfield 18, 3) := by decide +kernel
theorem dX2_copyFirst_58 : decode cX2_copyFirst 58 = .ok (.iload_n 3, 1) := by decide +kernel
theorem dX2_copyFirst_59 : decode cX2_copyFirst 59 = .ok (.iaload, 1) := by decide +kernel
theorem dX2_copyFirst_60 : decode cX2_copyFirst 60 = .ok (.iload_n 2, 1) := by decide +kernel
theorem dX2_copyFirst_61 : decode cX2_copyFirst 61 = .ok (.if_icmp .ge 28, 3) := by decide +kernel
theorem dX2_copyFirst_64 : decode cX2_copyFirst 64 = .ok (.aload_n 0, 1) := by decide +kernel
theorem dX2_copyFirst_65 : decode cX2_copyFirst 65 = .ok (.getfield 18, 3) := by decide +kernel
theorem dX2_copyFirst_68 : decode cX2_copyFirst 68 = .ok (.aload_n 0, 1) := by decide +kernel
theorem dX2_copyFirst_69 : decode cX2_copyFirst 69 = .ok (.getfield 21, 3) := by decide +kernel
theorem dX2_copyFirst_72 : decode cX2_copyFirst 72 = .ok (.aload_n 1, 1) := by decide +kernel
theorem dX2_copyFirst_73 : decode cX2_copyFirst 73 = .ok (.getfield 18, 3) := by decide +kernel
theorem dX2_copyFirst_76 : decode cX2_copyFirst 76 = .ok (.iload_n 3, 1) := by decide +kernel
theorem dX2_copyFirst_77 : decode cX2_copyFirst 77 = .ok (.iaload, 1) := by decide +kernel
theorem dX2_copyFirst_78 : decode cX2_copyFirst 78 = .ok (.iastore, 1) := by decide +kernel
theorem dX2_copyFirst_79 : decode cX2_copyFirst 79 = .ok (.aload_n 0, 1) := by decide +kernel
theorem dX2_copyFirst_80 : decode cX2_copyFirst 80 = .ok (.dup, 1) := by decide +kernel
theorem dX2_copyFirst_81 : decode cX2_copyFirst 81 = .ok (.getfield 21, 3) := by decide +kernel
theorem dX2_copyFirst_84 : decode cX2_copyFirst 84 = .ok (.iconst 1, 1) := by decide +kernel
theorem dX2_copyFirst_85 : decode cX2_copyFirst 85 = .ok (.iadd, 1) := by decide +kernel
theorem dX2_copyFirst_86 : decode cX2_copyFirst 86 = .ok (.putfield 21, 3) := by decide +kernel
theorem dX2_copyFirst_89 : decode cX2_copyFirst 89 = .ok (.iinc 3 1, 3) := by decide +kernel
theorem dX2_copyFirst_92 : decode cX2_copyFirst 92 = .ok (.goto (-54), 3) := by decide +kernel
theorem dX2_copyFirst_95 : decode cX2_copyFirst 95 = .ok (.return_, 1) := by decide +kernel
theorem dX3_init_0 : decode cX3_init 0 = .ok (.aload_n 0, 1) := by decide +kernel
theorem dX3_init_1 : decode cX3_init 1 = .ok (.invokespecial 3, 3) := by decide +kernel
theorem dX3_init_4 : decode cX3_init 4 = .ok (.aload_n 0, 1) := by decide +kernel
theorem dX3_init_5 : decode cX3_init 5 = .ok (.new 9, 3) := by decide +kernel
theorem dX3_init_8 : decode cX3_init 8 = .ok (.dup, 1) := by decide +kernel
theorem dX3_init_9 : decode cX3_init 9 = .ok (.invokespecial 11, 3) := by decide +kernel
theorem dX3_init_12 : decode cX3_init 12 = .ok (.putfield 12, 3) := by decide +kernel
theorem dX3_init_15 : decode cX3_init 15 = .ok (.aload_n 0, 1) := by decide +kernel
theorem dX3_init_16 : decode cX3_init 16 = .ok (.new 18, 3) := by decide +kernel
theorem dX3_init_19 : decode cX3_init 19 = .ok (.dup, 1) := by decide +kernel
theorem dX3_init_20 : decode cX3_init 20 = .ok (.invokespecial 20, 3) := by decide +kernel
theorem dX3_init_23 : decode cX3_init 23 = .ok (.putfield 21, 3) := by decide +kernel
theorem dX3_init_26 : decode cX3_init 26 = .ok (.aload_n 0, 1) := by decide +kernel
theorem dX3_init_27 : decode cX3_init 27 = .ok (.sipush 400, 3) := by decide +kernel
theorem dX3_init_30 : decode cX3_init 30 = .ok (.newarray .int, 2) := by decide +kernel
theorem dX3_init_32 : decode cX3_init 32 = .ok (.putfield 25, 3) := by decide +kernel
theorem dX3_init_35 : decode cX3_init 35 = .ok (.aload_n 0, 1) := by decide +kernel
theorem dX3_init_36 : decode cX3_init 36 = .ok (.sipush 400, 3) := by decide +kernel
theorem dX3_init_39 : decode cX3_init 39 = .ok (.newarray .int, 2) := by decide +kernel
theorem dX3_init_41 : decode cX3_init 41 = .ok (.putfield 29, 3) := by decide +kernel
theorem dX3_init_44 : decode cX3_init 44 = .ok (.aload_n 0, 1) := by decide +kernel
theorem dX3_init_45 : decode cX3_init 45 = .ok (.sipush 400, 3) := by decide +kernel
theorem dX3_init_48 : decode cX3_init 48 = .ok (.newarray .long, 2) := by decide +kernel
theorem dX3_init_50 : decode cX3_init 50 = .ok (.putfield 32, 3) := by decide +kernel
theorem dX3_init_53 : decode cX3_init 53 = .ok (.aload_n 0, 1) := by decide +kernel
theorem dX3_init_54 : decode cX3_init 54 = .ok (.sipush 6376, 3) := by decide +kernel
theorem dX3_init_57 : decode cX3_init 57 = .ok (.newarray .int, 2) := by decide +kernel
theorem dX3_init_59 : decode cX3_init 59 = .ok (.putfield 36, 3) := by decide +kernel
theorem dX3_init_62 : decode cX3_init 62 = .ok (.aload_n 0, 1) := by decide +kernel
theorem dX3_init_63 : decode cX3_init 63 = .ok (.bipush 8, 2) := by decide +kernel
theorem dX3_init_65 : decode cX3_init 65 = .ok (.newarray .int, 2) := by decide +kernel
theorem dX3_init_67 : decode cX3_init 67 = .ok (.putfield 39, 3) := by decide +kernel
theorem dX3_init_70 : decode cX3_init 70 = .ok (.aload_n 0, 1) := by decide +kernel
theorem dX3_init_71 : decode cX3_init 71 = .ok (.iconst (-1), 1) := by decide +kernel
theorem dX3_init_72 : decode cX3_init 72 = .ok (.putfield 42, 3) := by decide +kernel
theorem dX3_init_75 : decode cX3_init 75 = .ok (.return_, 1) := by decide +kernel
theorem dX3_clear_0 : decode cX3_clear 0 = .ok (.aload_n 0, 1) := by decide +kernel
theorem dX3_clear_1 : decode cX3_clear 1 = .ok (.iload_n 1, 1) := by decide +kernel
theorem dX3_clear_2 : decode cX3_clear 2 = .ok (.putfield 46, 3) := by decide +kernel
theorem dX3_clear_5 : decode cX3_clear 5 = .ok (.aload_n 0, 1) := by decide +kernel
theorem dX3_clear_6 : decode cX3_clear 6 = .ok (.iconst 0, 1) := by decide +kernel
theorem dX3_clear_7 : decode cX3_clear 7 = .ok (.putfield 49, 3) := by decide +kernel
theorem dX3_clear_10 : decode cX3_clear 10 = .ok (.aload_n 0, 1) := by decide +kernel
theorem dX3_clear_11 : decode cX3_clear 11 = .ok (.getfield 12, 3) := by decide +kernel
theorem dX3_clear_14 : decode cX3_clear 14 = .ok (.iconst 0, 1) := by decide +kernel
theorem dX3_clear_15 : decode cX3_clear 15 = .ok (.putfield 52, 3) := by decide +kernel
theorem dX3_clear_18 : decode cX3_clear 18 = .ok (.aload_n 0, 1) := by decide +kernel
theorem dX3_clear_19 : decode cX3_clear 19 = .ok (.getfield 21, 3) := by decide +kernel
theorem dX3_clear_22 : decode cX3_clear 22 = .ok (.iconst 0, 1) := by decide +kernel
theorem dX3_clear_23 : decode cX3_clear 23 = .ok (.putfield 53, 3) := by decide +kernel
theorem dX3_clear_26 : decode cX3_clear 26 = .ok (.aload_n 0, 1) := by decide +kernel
theorem dX3_clear_27 : decode cX3_clear 27 = .ok (.iconst (-1), 1) := by decide +kernel
theorem dX3_clear_28 : decode cX3_clear 28 = .ok (.putfield 42, 3) := by decide +kernel
theorem dX3_clear_31 : decode cX3_clear 31 = .ok (.return_, 1) := by decide +kernel
theorem dX3_reaches_0 : decode cX3_reaches 0 = .ok (.iload_n 1, 1) := by decide +kernel
theorem dX3_reaches_1 : decode cX3_reaches 1 = .ok (.ifCond .lt 15, 3) := by decide +kernel
theorem dX3_reaches_4 : decode cX3_reaches 4 = .ok (.iload_n 1, 1) := by decide +kernel
theorem dX3_reaches_5 : decode cX3_reaches 5 = .ok (.aload_n 0, 1) := by decide +kernel
theorem dX3_reaches_6 : decode cX3_reaches 6 = .ok (.getfield 49, 3) := by decide +kernel
theorem dX3_reaches_9 : decode cX3_reaches 9 = .ok (.if_icmp .gt 7, 3) := by decide +kernel
theorem dX3_reaches_12 : decode cX3_reaches 12 = .ok (.iconst 1, 1) := by decide +kernel
theorem dX3_reaches_13 : decode cX3_reaches 13 = .ok (.goto 4, 3) := by decide +kernel
theorem dX3_reaches_16 : decode cX3_reaches 16 = .ok (.iconst 0, 1) := by decide +kernel
theorem dX3_reaches_17 : decode cX3_reaches 17 = .ok (.ireturn, 1) := by decide +kernel
theorem dX3_shows_0 : decode cX3_shows 0 = .ok (.iload_n 1, 1) := by decide +kernel
theorem dX3_shows_1 : decode cX3_shows 1 = .ok (.ifCond .lt 25, 3) := by decide +kernel
theorem dX3_shows_4 : decode cX3_shows 4 = .ok (.iload_n 1, 1) := by decide +kernel
theorem dX3_shows_5 : decode cX3_shows 5 = .ok (.aload_n 0, 1) := by decide +kernel
theorem dX3_shows_6 : decode cX3_shows 6 = .ok (.getfield 49, 3) := by decide +kernel
theorem dX3_shows_9 : decode cX3_shows 9 = .ok (.if_icmp .ge 17, 3) := by decide +kernel
theorem dX3_shows_12 : decode cX3_shows 12 = .ok (.aload_n 0, 1) := by decide +kernel
theorem dX3_shows_13 : decode cX3_shows 13 = .ok (.getfield 29, 3) := by decide +kernel
theorem dX3_shows_16 : decode cX3_shows 16 = .ok (.iload_n 1, 1) := by decide +kernel
theorem dX3_shows_17 : decode cX3_shows 17 = .ok (.iaload, 1) := by decide +kernel
theorem dX3_shows_18 : decode cX3_shows 18 = .ok (.iconst 2, 1) := by decide +kernel
theorem dX3_shows_19 : decode cX3_shows 19 = .ok (.if_icmp .eq 7, 3) := by decide +kernel
theorem dX3_shows_22 : decode cX3_shows 22 = .ok (.iconst 1, 1) := by decide +kernel
theorem dX3_shows_23 : decode cX3_shows 23 = .ok (.goto 4, 3) := by decide +kernel
theorem dX3_shows_26 : decode cX3_shows 26 = .ok (.iconst 0, 1) := by decide +kernel
theorem dX3_shows_27 : decode cX3_shows 27 = .ok (.ireturn, 1) := by decide +kernel
theorem dX3_showsAll_0 : decode cX3_showsAll 0 = .ok (.iload_n 1, 1) := by decide +kernel
theorem dX3_showsAll_1 : decode cX3_showsAll 1 = .ok (.istore_n 3, 1) := by decide +kernel
theorem dX3_showsAll_2 : decode cX3_showsAll 2 = .ok (.iload_n 3, 1) := by decide +kernel
theorem dX3_showsAll_3 : decode cX3_showsAll 3 = .ok (.iload_n 2, 1) := by decide +kernel
theorem dX3_showsAll_4 : decode cX3_showsAll 4 = .ok (.if_icmp .ge 19, 3) := by decide +kernel
theorem dX3_showsAll_7 : decode cX3_showsAll 7 = .ok (.aload_n 0, 1) := by decide +kernel
theorem dX3_showsAll_8 : decode cX3_showsAll 8 = .ok (.iload_n 3, 1) := by decide +kernel
theorem dX3_showsAll_9 : decode cX3_showsAll 9 = .ok (.invokevirtual 54, 3) := by decide +kernel
theorem dX3_showsAll_12 : decode cX3_showsAll 12 = .ok (.ifCond .ne 5, 3) := by decide +kernel
theorem dX3_showsAll_15 : decode cX3_showsAll 15 = .ok (.iconst 0, 1) := by decide +kernel
theorem dX3_showsAll_16 : decode cX3_showsAll 16 = .ok (.ireturn, 1) := by decide +kernel
theorem dX3_showsAll_17 : decode cX3_showsAll 17 = .ok (.iinc 3 1, 3) := by decide +kernel
theorem dX3_showsAll_20 : decode cX3_showsAll 20 = .ok (.goto (-18), 3) := by decide +kernel
theorem dX3_showsAll_23 : decode cX3_showsAll 23 = .ok (.iconst 1, 1) := by decide +kernel
theorem dX3_showsAll_24 : decode cX3_showsAll 24 = .ok (.ireturn, 1) := by decide +kernel
theorem dX3_keyAt_0 : decode cX3_keyAt 0 = .ok (.aload_n 0, 1) := by decide +kernel
theorem dX3_keyAt_1 : decode cX3_keyAt 1 = .ok (.getfield 12, 3) := by decide +kernel
theorem dX3_keyAt_4 : decode cX3_keyAt 4 = .ok (.aload_n 0, 1) := by decide +kernel
theorem dX3_keyAt_5 : decode cX3_keyAt 5 = .ok (.getfield 25, 3) := by decide +kernel
theorem dX3_keyAt_8 : decode cX3_keyAt 8 = .ok (.iload_n 1, 1) := by decide +kernel
theorem dX3_keyAt_9 : decode cX3_keyAt 9 = .ok (.iaload, 1) := by decide +kernel
theorem dX3_keyAt_10 : decode cX3_keyAt 10 = .ok (.invokevirtual 58, 3) := by decide +kernel
theorem dX3_keyAt_13 : decode cX3_keyAt 13 = .ok (.ireturn, 1) := by decide +kernel
theorem dX3_append_0 : decode cX3_append 0 = .ok (.aload_n 0, 1) := by decide +kernel
theorem dX3_append_1 : decode cX3_append 1 = .ok (.getfield 49, 3) := by decide +kernel
theorem dX3_append_4 : decode cX3_append 4 = .ok (.sipush 400, 3) := by decide +kernel
theorem dX3_append_7 : decode cX3_append 7 = .ok (.if_icmp .lt 4, 3) := by decide +kernel
theorem dX3_append_10 : decode cX3_append 10 = .ok (.return_, 1) := by decide +kernel
theorem dX3_append_11 : decode cX3_append 11 = .ok (.aload_n 0, 1) := by decide +kernel
theorem dX3_append_12 : decode cX3_append 12 = .ok (.getfield 25, 3) := by decide +kernel
theorem dX3_append_15 : decode cX3_append 15 = .ok (.aload_n 0, 1) := by decide +kernel
theorem dX3_append_16 : decode cX3_append 16 = .ok (.getfield 49, 3) := by decide +kernel
theorem dX3_append_19 : decode cX3_append 19 = .ok (.aload_n 0, 1) := by decide +kernel
theorem dX3_append_20 : decode cX3_append 20 = .ok (.getfield 12, 3) := by decide +kernel
theorem dX3_append_23 : decode cX3_append 23 = .ok (.aload_n 1, 1) := by decide +kernel
theorem dX3_append_24 : decode cX3_append 24 = .ok (.iload_n 2, 1) := by decide +kernel
theorem dX3_append_25 : decode cX3_append 25 = .ok (.invokevirtual 62, 3) := by decide +kernel
theorem dX3_append_28 : decode cX3_append 28 = .ok (.iastore, 1) := by decide +kernel
theorem dX3_append_29 : decode cX3_append 29 = .ok (.aload_n 0, 1) := by decide +kernel
theorem dX3_append_30 : decode cX3_append 30 = .ok (.getfield 32, 3) := by decide +kernel
theorem dX3_append_33 : decode cX3_append 33 = .ok (.aload_n 0, 1) := by decide +kernel
theorem dX3_append_34 : decode cX3_append 34 = .ok (.getfield 49, 3) := by decide +kernel
theorem dX3_append_37 : decode cX3_append 37 = .ok (.lload_n 3, 1) := by decide +kernel
theorem dX3_append_38 : decode cX3_append 38 = .ok (.lastore, 1) := by decide +kernel
theorem dX3_append_39 : decode cX3_append 39 = .ok (.aload_n 0, 1) := by decide +kernel
theorem dX3_append_40 : decode cX3_append 40 = .ok (.getfield 29, 3) := by decide +kernel
theorem dX3_append_43 : decode cX3_append 43 = .ok (.aload_n 0, 1) := by decide +kernel
theorem dX3_append_44 : decode cX3_append 44 = .ok (.getfield 49, 3) := by decide +kernel
theorem dX3_append_47 : decode cX3_append 47 = .ok (.iconst 0, 1) := by decide +kernel
theorem dX3_append_48 : decode cX3_append 48 = .ok (.iastore, 1) := by decide +kernel
theorem dX3_append_49 : decode cX3_append 49 = .ok (.aload_n 1, 1) := by decide +kernel
theorem dX3_append_50 : decode cX3_append 50 = .ok (.iload_n 2, 1) := by decide +kernel
theorem dX3_append_51 : decode cX3_append 51 = .ok (.lload_n 3, 1) := by decide +kernel
theorem dX3_append_52 : decode cX3_append 52 = .ok (.aload_n 0, 1) := by decide +kernel
theorem dX3_append_53 : decode cX3_append 53 = .ok (.getfield 36, 3) := by decide +kernel
theorem dX3_append_56 : decode cX3_append 56 = .ok (.aload_n 0, 1) := by decide +kernel
theorem dX3_append_57 : decode cX3_append 57 = .ok (.getfield 49, 3) := by decide +kernel
theorem dX3_append_60 : decode cX3_append 60 = .ok (.invokevirtual 66, 3) := by decide +kernel
theorem dX3_append_63 : decode cX3_append 63 = .ok (.aload_n 0, 1) := by decide +kernel
theorem dX3_append_64 : decode cX3_append 64 = .ok (.dup, 1) := by decide +kernel
theorem dX3_append_65 : decode cX3_append 65 = .ok (.getfield 49, 3) := by decide +kernel
theorem dX3_append_68 : decode cX3_append 68 = .ok (.iconst 1, 1) := by decide +kernel
theorem dX3_append_69 : decode cX3_append 69 = .ok (.iadd, 1) := by decide +kernel
theorem dX3_append_70 : decode cX3_append 70 = .ok (.putfield 49, 3) := by decide +kernel
theorem dX3_append_73 : decode cX3_append 73 = .ok (.aload_n 0, 1) := by decide +kernel
theorem dX3_append_74 : decode cX3_append 74 = .ok (.aload_n 1, 1) := by decide +kernel
theorem dX3_append_75 : decode cX3_append 75 = .ok (.invokevirtual 72, 3) := by decide +kernel
theorem dX3_append_78 : decode cX3_append 78 = .ok (.return_, 1) := by decide +kernel
theorem dX3_joinFullBlocks_0 : decode cX3_joinFullBlocks 0 = .ok (.iconst 1, 1) := by decide +kernel
theorem dX3_joinFullBlocks_1 : decode cX3_joinFullBlocks 1 = .ok (.istore_n 2, 1) := by decide +kernel
theorem dX3_joinFullBlocks_2 : decode cX3_joinFullBlocks 2 = .ok (.iload_n 2, 1) := by decide +kernel
theorem dX3_joinFullBlocks_3 : decode cX3_joinFullBlocks 3 = .ok (.bipush 9, 2) := by decide +kernel
theorem dX3_joinFullBlocks_5 : decode cX3_joinFullBlocks 5 = .ok (.if_icmp .ge 71, 3) := by decide +kernel
theorem dX3_joinFullBlocks_8 : decode cX3_joinFullBlocks 8 = .ok (.aload_n 0, 1) := by decide +kernel
theorem dX3_joinFullBlocks_9 : decode cX3_joinFullBlocks 9 = .ok (.getfield 49, 3) := by decide +kernel
theorem dX3_joinFullBlocks_12 : decode cX3_joinFullBlocks 12 = .ok (.iconst 1, 1) := by decide +kernel
theorem dX3_joinFullBlocks_13 : decode cX3_joinFullBlocks 13 = .ok (.iload_n 2, 1) := by decide +kernel
theorem dX3_joinFullBlocks_14 : decode cX3_joinFullBlocks 14 = .ok (.ishl, 1) := by decide +kernel
theorem dX3_joinFullBlocks_15 : decode cX3_joinFullBlocks 15 = .ok (.irem, 1) := by decide +kernel
theorem dX3_joinFullBlocks_16 : decode cX3_joinFullBlocks 16 = .ok (.ifCond .ne 60, 3) := by decide +kernel
theorem dX3_joinFullBlocks_19 : decode cX3_joinFullBlocks 19 = .ok (.aload_n 0, 1) := by decide +kernel
theorem dX3_joinFullBlocks_20 : decode cX3_joinFullBlocks 20 = .ok (.getfield 49, 3) := by decide +kernel
theorem dX3_joinFullBlocks_23 : decode cX3_joinFullBlocks 23 = .ok (.iload_n 2, 1) := by decide +kernel
theorem dX3_joinFullBlocks_24 : decode cX3_joinFullBlocks 24 = .ok (.ishr, 1) := by decide +kernel
theorem dX3_joinFullBlocks_25 : decode cX3_joinFullBlocks 25 = .ok (.iconst 1, 1) := by decide +kernel
theorem dX3_joinFullBlocks_26 : decode cX3_joinFullBlocks 26 = .ok (.isub, 1) := by decide +kernel
theorem dX3_joinFullBlocks_27 : decode cX3_joinFullBlocks 27 = .ok (.istore_n 3, 1) := by decide +kernel
theorem dX3_joinFullBlocks_28 : decode cX3_joinFullBlocks 28 = .ok (.getstatic 76, 3) := by decide +kernel
theorem dX3_joinFullBlocks_31 : decode cX3_joinFullBlocks 31 = .ok (.iload_n 2, 1) := by decide +kernel
theorem dX3_joinFullBlocks_32 : decode cX3_joinFullBlocks 32 = .ok (.iconst 1, 1) := by decide +kernel
theorem dX3_joinFullBlocks_33 : decode cX3_joinFullBlocks 33 = .ok (.isub, 1) := by decide +kernel
theorem dX3_joinFullBlocks_34 : decode cX3_joinFullBlocks 34 = .ok (.iaload, 1) := by decide +kernel
theorem dX3_joinFullBlocks_35 : decode cX3_joinFullBlocks 35 = .ok (.iconst 2, 1) := by decide +kernel
theorem dX3_joinFullBlocks_36 : decode cX3_joinFullBlocks 36 = .ok (.iload_n 3, 1) := by decide +kernel
theorem dX3_joinFullBlocks_37 : decode cX3_joinFullBlocks 37 = .ok (.imul, 1) := by decide +kernel
theorem dX3_joinFullBlocks_38 : decode cX3_joinFullBlocks 38 = .ok (.iadd, 1) := by decide +kernel
theorem dX3_joinFullBlocks_39 : decode cX3_joinFullBlocks 39 = .ok (.istore 4, 2) := by decide +kernel
theorem dX3_joinFullBlocks_41 : decode cX3_joinFullBlocks 41 = .ok (.aload_n 1, 1) := by decide +kernel
theorem dX3_joinFullBlocks_42 : decode cX3_joinFullBlocks 42 = .ok (.aload_n 0, 1) := by decide +kernel
theorem dX3_joinFullBlocks_43 : decode cX3_joinFullBlocks 43 = .ok (.getfield 36, 3) := by decide +kernel
theorem dX3_joinFullBlocks_46 : decode cX3_joinFullBlocks 46 = .ok (.iload 4, 2) := by decide +kernel
theorem dX3_joinFullBlocks_48 : decode cX3_joinFullBlocks 48 = .ok (.aload_n 0, 1) := by decide +kernel
theorem dX3_joinFullBlocks_49 : decode cX3_joinFullBlocks 49 = .ok (.getfield 36, 3) := by decide +kernel
theorem dX3_joinFullBlocks_52 : decode cX3_joinFullBlocks 52 = .ok (.iload 4, 2) := by decide +kernel
theorem dX3_joinFullBlocks_54 : decode cX3_joinFullBlocks 54 = .ok (.iconst 1, 1) := by decide +kernel
theorem dX3_joinFullBlocks_55 : decode cX3_joinFullBlocks 55 = .ok (.iadd, 1) := by decide +kernel
theorem dX3_joinFullBlocks_56 : decode cX3_joinFullBlocks 56 = .ok (.aload_n 0, 1) := by decide +kernel
theorem dX3_joinFullBlocks_57 : decode cX3_joinFullBlocks 57 = .ok (.getfield 36, 3) := by decide +kernel
theorem dX3_joinFullBlocks_60 : decode cX3_joinFullBlocks 60 = .ok (.getstatic 76, 3) := by decide +kernel
theorem dX3_joinFullBlocks_63 : decode cX3_joinFullBlocks 63 = .ok (.iload_n 2, 1) := by decide +kernel
theorem dX3_joinFullBlocks_64 : decode cX3_joinFullBlocks 64 = .ok (.iaload, 1) := by decide +kernel
theorem dX3_joinFullBlocks_65 : decode cX3_joinFullBlocks 65 = .ok (.iload_n 3, 1) := by decide +kernel
theorem dX3_joinFullBlocks_66 : decode cX3_joinFullBlocks 66 = .ok (.iadd, 1) := by decide +kernel
theorem dX3_joinFullBlocks_67 : decode cX3_joinFullBlocks 67 = .ok (.invokevirtual 79, 3) := by decide +kernel
theorem dX3_joinFullBlocks_70 : decode cX3_joinFullBlocks 70 = .ok (.iinc 2 1, 3) := by decide +kernel
theorem dX3_joinFullBlocks_73 : decode cX3_joinFullBlocks 73 = .ok (.goto (-71), 3) := by decide +kernel
theorem dX3_joinFullBlocks_76 : decode cX3_joinFullBlocks 76 = .ok (.return_, 1) := by decide +kernel
theorem dX3_tellMark_0 : decode cX3_tellMark 0 = .ok (.aload_n 0, 1) := by decide +kernel
theorem dX3_tellMark_1 : decode cX3_tellMark 1 = .ok (.iconst (-1), 1) := by decide +kernel
theorem dX3_tellMark_2 : decode cX3_tellMark 2 = .ok (.putfield 42, 3) := by decide +kernel
theorem dX3_tellMark_5 : decode cX3_tellMark 5 = .ok (.aload_n 0, 1) := by decide +kernel
theorem dX3_tellMark_6 : decode cX3_tellMark 6 = .ok (.getfield 21, 3) := by decide +kernel
theorem dX3_tellMark_9 : decode cX3_tellMark 9 = .ok (.iload_n 1, 1) := by decide +kernel
theorem dX3_tellMark_10 : decode cX3_tellMark 10 = .ok (.aload_n 0, 1) := by decide +kernel
theorem dX3_tellMark_11 : decode cX3_tellMark 11 = .ok (.getfield 49, 3) := by decide +kernel
theorem dX3_tellMark_14 : decode cX3_tellMark 14 = .ok (.iload_n 2, 1) := by decide +kernel
theorem dX3_tellMark_15 : decode cX3_tellMark 15 = .ok (.invokevirtual 83, 3) := by decide +kernel
theorem dX3_tellMark_18 : decode cX3_tellMark 18 = .ok (.ireturn, 1) := by decide +kernel
theorem dX3_forget_0 : decode cX3_forget 0 = .ok (.iconst 0, 1) := by decide +kernel
theorem dX3_forget_1 : decode cX3_forget 1 = .ok (.istore_n 2, 1) := by decide +kernel
theorem dX3_forget_2 : decode cX3_forget 2 = .ok (.iconst 0, 1) := by decide +kernel
theorem dX3_forget_3 : decode cX3_forget 3 = .ok (.istore_n 3, 1) := by decide +kernel
theorem dX3_forget_4 : decode cX3_forget 4 = .ok (.iload_n 3, 1) := by decide +kernel
theorem dX3_forget_5 : decode cX3_forget 5 = .ok (.iload_n 1, 1) := by decide +kernel
theorem dX3_forget_6 : decode cX3_forget 6 = .ok (.if_icmp .ge 43, 3) := by decide +kernel
theorem dX3_forget_9 : decode cX3_forget 9 = .ok (.iload_n 3, 1) := by decide +kernel
theorem dX3_forget_10 : decode cX3_forget 10 = .ok (.aload_n 0, 1) := by decide +kernel
theorem dX3_forget_11 : decode cX3_forget 11 = .ok (.getfield 49, 3) := by decide +kernel
theorem dX3_forget_14 : decode cX3_forget 14 = .ok (.if_icmp .ge 35, 3) := by decide +kernel
theorem dX3_forget_17 : decode cX3_forget 17 = .ok (.aload_n 0, 1) := by decide +kernel
theorem dX3_forget_18 : decode cX3_forget 18 = .ok (.getfield 29, 3) := by decide +kernel
theorem dX3_forget_21 : decode cX3_forget 21 = .ok (.iload_n 3, 1) := by decide +kernel
theorem dX3_forget_22 : decode cX3_forget 22 = .ok (.iaload, 1) := by decide +kernel
theorem dX3_forget_23 : decode cX3_forget 23 = .ok (.ifCond .ne 20, 3) := by decide +kernel
theorem dX3_forget_26 : decode cX3_forget 26 = .ok (.aload_n 0, 1) := by decide +kernel
theorem dX3_forget_27 : decode cX3_forget 27 = .ok (.getfield 29, 3) := by decide +kernel
theorem dX3_forget_30 : decode cX3_forget 30 = .ok (.iload_n 3, 1) := by decide +kernel
theorem dX3_forget_31 : decode cX3_forget 31 = .ok (.iconst 2, 1) := by decide +kernel
theorem dX3_forget_32 : decode cX3_forget 32 = .ok (.iastore, 1) := by decide +kernel
theorem dX3_forget_33 : decode cX3_forget 33 = .ok (.aload_n 0, 1) := by decide +kernel
theorem dX3_forget_34 : decode cX3_forget 34 = .ok (.getfield 32, 3) := by decide +kernel
theorem dX3_forget_37 : decode cX3_forget 37 = .ok (.iload_n 3, 1) := by decide +kernel
theorem dX3_forget_38 : decode cX3_forget 38 = .ok (.lconst 0, 1) := by decide +kernel
theorem dX3_forget_39 : decode cX3_forget 39 = .ok (.lastore, 1) := by decide +kernel
theorem dX3_forget_40 : decode cX3_forget 40 = .ok (.iinc 2 1, 3) := by decide +kernel
theorem dX3_forget_43 : decode cX3_forget 43 = .ok (.iinc 3 1, 3) := by decide +kernel
theorem dX3_forget_46 : decode cX3_forget 46 = .ok (.goto (-42), 3) := by decide +kernel
theorem dX3_forget_49 : decode cX3_forget 49 = .ok (.iload_n 2, 1) := by decide +kernel
theorem dX3_forget_50 : decode cX3_forget 50 = .ok (.ireturn, 1) := by decide +kernel
theorem dX3_goneEntries_0 : decode cX3_goneEntries 0 = .ok (.iconst 0, 1) := by decide +kernel
theorem dX3_goneEntries_1 : decode cX3_goneEntries 1 = .ok (.istore_n 1, 1) := by decide +kernel
theorem dX3_goneEntries_2 : decode cX3_goneEntries 2 = .ok (.iconst 0, 1) := by decide +kernel
theorem dX3_goneEntries_3 : decode cX3_goneEntries 3 = .ok (.istore_n 2, 1) := by decide +kernel
theorem dX3_goneEntries_4 : decode cX3_goneEntries 4 = .ok (.iload_n 2, 1) := by decide +kernel
theorem dX3_goneEntries_5 : decode cX3_goneEntries 5 = .ok (.aload_n 0, 1) := by decide +kernel
theorem dX3_goneEntries_6 : decode cX3_goneEntries 6 = .ok (.getfield 49, 3) := by decide +kernel
theorem dX3_goneEntries_9 : decode cX3_goneEntries 9 = .ok (.if_icmp .ge 22, 3) := by decide +kernel
theorem dX3_goneEntries_12 : decode cX3_goneEntries 12 = .ok (.aload_n 0, 1) := by decide +kernel
theorem dX3_goneEntries_13 : decode cX3_goneEntries 13 = .ok (.getfield 29, 3) := by decide +kernel
theorem dX3_goneEntries_16 : decode cX3_goneEntries 16 = .ok (.iload_n 2, 1) := by decide +kernel
theorem dX3_goneEntries_17 : decode cX3_goneEntries 17 = .ok (.iaload, 1) := by decide +kernel
theorem dX3_goneEntries_18 : decode cX3_goneEntries 18 = .ok (.iconst 2, 1) := by decide +kernel
theorem dX3_goneEntries_19 : decode cX3_goneEntries 19 = .ok (.if_icmp .ne 6, 3) := by decide +kernel
theorem dX3_goneEntries_22 : decode cX3_goneEntries 22 = .ok (.iinc 1 1, 3) := by decide +kernel
theorem dX3_goneEntries_25 : decode cX3_goneEntries 25 = .ok (.iinc 2 1, 3) := by decide +kernel
theorem dX3_goneEntries_28 : decode cX3_goneEntries 28 = .ok (.goto (-24), 3) := by decide +kernel
theorem dX3_goneEntries_31 : decode cX3_goneEntries 31 = .ok (.iload_n 1, 1) := by decide +kernel
theorem dX3_goneEntries_32 : decode cX3_goneEntries 32 = .ok (.ireturn, 1) := by decide +kernel
theorem dX3_showEntries_0 : decode cX3_showEntries 0 = .ok (.iload_n 3, 1) := by decide +kernel
theorem dX3_showEntries_1 : decode cX3_showEntries 1 = .ok (.istore 5, 2) := by decide +kernel
theorem dX3_showEntries_3 : decode cX3_showEntries 3 = .ok (.iload 5, 2) := by decide +kernel
theorem dX3_showEntries_5 : decode cX3_showEntries 5 = .ok (.iload 4, 2) := by decide +kernel
theorem dX3_showEntries_7 : decode cX3_showEntries 7 = .ok (.if_icmp .ge 26, 3) := by decide +kernel
theorem dX3_showEntries_10 : decode cX3_showEntries 10 = .ok (.aload_n 1, 1) := by decide +kernel
theorem dX3_showEntries_11 : decode cX3_showEntries 11 = .ok (.aload_n 0, 1) := by decide +kernel
theorem dX3_showEntries_12 : decode cX3_showEntries 12 = .ok (.iload 5, 2) := by decide +kernel
theorem dX3_showEntries_14 : decode cX3_showEntries 14 = .ok (.invokevirtual 87, 3) := by decide +kernel
theorem dX3_showEntries_17 : decode cX3_showEntries 17 = .ok (.aload_n 0, 1) := by decide +kernel
theorem dX3_showEntries_18 : decode cX3_showEntries 18 = .ok (.getfield 32, 3) := by decide +kernel
theorem dX3_showEntries_21 : decode cX3_showEntries 21 = .ok (.iload 5, 2) := by decide +kernel
theorem dX3_showEntries_23 : decode cX3_showEntries 23 = .ok (.laload, 1) := by decide +kernel
theorem dX3_showEntries_24 : decode cX3_showEntries 24 = .ok (.invokevirtual 90, 3) := by decide +kernel
theorem dX3_showEntries_27 : decode cX3_showEntries 27 = .ok (.iinc 5 1, 3) := by decide +kernel
theorem dX3_showEntries_30 : decode cX3_showEntries 30 = .ok (.goto (-27), 3) := by decide +kernel
theorem dX3_showEntries_33 : decode cX3_showEntries 33 = .ok (.aload_n 0, 1) := by decide +kernel
theorem dX3_showEntries_34 : decode cX3_showEntries 34 = .ok (.aload_n 1, 1) := by decide +kernel
theorem dX3_showEntries_35 : decode cX3_showEntries 35 = .ok (.iconst 0, 1) := by decide +kernel
theorem dX3_showEntries_36 : decode cX3_showEntries 36 = .ok (.iload_n 3, 1) := by decide +kernel
theorem dX3_showEntries_37 : decode cX3_showEntries 37 = .ok (.invokevirtual 96, 3) := by decide +kernel
theorem dX3_showEntries_40 : decode cX3_showEntries 40 = .ok (.aload_n 0, 1) := by decide +kernel
theorem dX3_showEntries_41 : decode cX3_showEntries 41 = .ok (.aload_n 1, 1) := by decide +kernel
theorem dX3_showEntries_42 : decode cX3_showEntries 42 = .ok (.iload 4, 2) := by decide +kernel
theorem dX3_showEntries_44 : decode cX3_showEntries 44 = .ok (.iload_n 2, 1) := by decide +kernel
theorem dX3_showEntries_45 : decode cX3_showEntries 45 = .ok (.invokevirtual 96, 3) := by decide +kernel
theorem dX3_showEntries_48 : decode cX3_showEntries 48 = .ok (.return_, 1) := by decide +kernel
theorem dX3_showGrowth_0 : decode cX3_showGrowth 0 = .ok (.aload_n 1, 1) := by decide +kernel
theorem dX3_showGrowth_1 : decode cX3_showGrowth 1 = .ok (.iconst 2, 1) := by decide +kernel
theorem dX3_showGrowth_2 : decode cX3_showGrowth 2 = .ok (.iload_n 3, 1) := by decide +kernel
theorem dX3_showGrowth_3 : decode cX3_showGrowth 3 = .ok (.iload_n 2, 1) := by decide +kernel
theorem dX3_showGrowth_4 : decode cX3_showGrowth 4 = .ok (.invokevirtual 100, 3) := by decide +kernel
theorem dX3_showGrowth_7 : decode cX3_showGrowth 7 = .ok (.aload_n 0, 1) := by decide +kernel
theorem dX3_showGrowth_8 : decode cX3_showGrowth 8 = .ok (.aload_n 1, 1) := by decide +kernel
theorem dX3_showGrowth_9 : decode cX3_showGrowth 9 = .ok (.iconst 0, 1) := by decide +kernel
theorem dX3_showGrowth_10 : decode cX3_showGrowth 10 = .ok (.iload_n 2, 1) := by decide +kernel
theorem dX3_showGrowth_11 : decode cX3_showGrowth 11 = .ok (.invokevirtual 96, 3) := by decide +kernel
theorem dX3_showGrowth_14 : decode cX3_showGrowth 14 = .ok (.aload_n 0, 1) := by decide +kernel
theorem dX3_showGrowth_15 : decode cX3_showGrowth 15 = .ok (.aload_n 1, 1) := by decide +kernel
theorem dX3_showGrowth_16 : decode cX3_showGrowth 16 = .ok (.iload_n 2, 1) := by decide +kernel
theorem dX3_showGrowth_17 : decode cX3_showGrowth 17 = .ok (.iload_n 3, 1) := by decide +kernel
theorem dX3_showGrowth_18 : decode cX3_showGrowth 18 = .ok (.invokevirtual 96, 3) := by decide +kernel
theorem dX3_showGrowth_21 : decode cX3_showGrowth 21 = .ok (.return_, 1) := by decide +kernel
theorem dX3_showBlocks_0 : decode cX3_showBlocks 0 = .ok (.iconst 0, 1) := by decide +kernel
theorem dX3_showBlocks_1 : decode cX3_showBlocks 1 = .ok (.istore 4, 2) := by decide +kernel
theorem dX3_showBlocks_3 : decode cX3_showBlocks 3 = .ok (.iload_n 2, 1) := by decide +kernel
theorem dX3_showBlocks_4 : decode cX3_showBlocks 4 = .ok (.istore 5, 2) := by decide +kernel
theorem dX3_showBlocks_6 : decode cX3_showBlocks 6 = .ok (.iload 5, 2) := by decide +kernel
theorem dX3_showBlocks_8 : decode cX3_showBlocks 8 = .ok (.iload_n 3, 1) := by decide +kernel
theorem dX3_showBlocks_9 : decode cX3_showBlocks 9 = .ok (.if_icmp .ge 43, 3) := by decide +kernel
theorem dX3_showBlocks_12 : decode cX3_showBlocks 12 = .ok (.iload 5, 2) := by decide +kernel
theorem dX3_showBlocks_14 : decode cX3_showBlocks 14 = .ok (.iload_n 3, 1) := by decide +kernel
theorem dX3_showBlocks_15 : decode cX3_showBlocks 15 = .ok (.invokestatic 104, 3) := by decide +kernel
theorem dX3_showBlocks_18 : decode cX3_showBlocks 18 = .ok (.istore 4, 2) := by decide +kernel
theorem dX3_showBlocks_20 : decode cX3_showBlocks 20 = .ok (.aload_n 1, 1) := by decide +kernel
theorem dX3_showBlocks_21 : decode cX3_showBlocks 21 = .ok (.aload_n 0, 1) := by decide +kernel
theorem dX3_showBlocks_22 : decode cX3_showBlocks 22 = .ok (.getfield 36, 3) := by decide +kernel
theorem dX3_showBlocks_25 : decode cX3_showBlocks 25 = .ok (.getstatic 76, 3) := by decide +kernel
theorem dX3_showBlocks_28 : decode cX3_showBlocks 28 = .ok (.iload 4, 2) := by decide +kernel
theorem dX3_showBlocks_30 : decode cX3_showBlocks 30 = .ok (.iaload, 1) := by decide +kernel
theorem dX3_showBlocks_31 : decode cX3_showBlocks 31 = .ok (.iload 5, 2) := by decide +kernel
theorem dX3_showBlocks_33 : decode cX3_showBlocks 33 = .ok (.iload 4, 2) := by decide +kernel
theorem dX3_showBlocks_35 : decode cX3_showBlocks 35 = .ok (.ishr, 1) := by decide +kernel
theorem dX3_showBlocks_36 : decode cX3_showBlocks 36 = .ok (.iadd, 1) := by decide +kernel
theorem dX3_showBlocks_37 : decode cX3_showBlocks 37 = .ok (.invokevirtual 108, 3) := by decide +kernel
theorem dX3_showBlocks_40 : decode cX3_showBlocks 40 = .ok (.iload 5, 2) := by decide +kernel
theorem dX3_showBlocks_42 : decode cX3_showBlocks 42 = .ok (.iconst 1, 1) := by decide +kernel
theorem dX3_showBlocks_43 : decode cX3_showBlocks 43 = .ok (.iload 4, 2) := by decide +kernel
theorem dX3_showBlocks_45 : decode cX3_showBlocks 45 = .ok (.ishl, 1) := by decide +kernel
theorem dX3_showBlocks_46 : decode cX3_showBlocks 46 = .ok (.iadd, 1) := by decide +kernel
theorem dX3_showBlocks_47 : decode cX3_showBlocks 47 = .ok (.istore 5, 2) := by decide +kernel
theorem dX3_showBlocks_49 : decode cX3_showBlocks 49 = .ok (.goto (-43), 3) := by decide +kernel
theorem dX3_showBlocks_52 : decode cX3_showBlocks 52 = .ok (.return_, 1) := by decide +kernel
theorem dX3_climb_0 : decode cX3_climb 0 = .ok (.iconst 0, 1) := by decide +kernel
theorem dX3_climb_1 : decode cX3_climb 1 = .ok (.istore_n 3, 1) := by decide +kernel
theorem dX3_climb_2 : decode cX3_climb 2 = .ok (.iconst 0, 1) := by decide +kernel
theorem dX3_climb_3 : decode cX3_climb 3 = .ok (.istore 4, 2) := by decide +kernel
theorem dX3_climb_5 : decode cX3_climb 5 = .ok (.iload 4, 2) := by decide +kernel
theorem dX3_climb_7 : decode cX3_climb 7 = .ok (.iload_n 2, 1) := by decide +kernel
theorem dX3_climb_8 : decode cX3_climb 8 = .ok (.if_icmp .ge 44, 3) := by decide +kernel
theorem dX3_climb_11 : decode cX3_climb 11 = .ok (.iload 4, 2) := by decide +kernel
theorem dX3_climb_13 : decode cX3_climb 13 = .ok (.iload_n 2, 1) := by decide +kernel
theorem dX3_climb_14 : decode cX3_climb 14 = .ok (.invokestatic 104, 3) := by decide +kernel
theorem dX3_climb_17 : decode cX3_climb 17 = .ok (.istore_n 3, 1) := by decide +kernel
theorem dX3_climb_18 : decode cX3_climb 18 = .ok (.aload_n 1, 1) := by decide +kernel
theorem dX3_climb_19 : decode cX3_climb 19 = .ok (.iload 4, 2) := by decide +kernel
theorem dX3_climb_21 : decode cX3_climb 21 = .ok (.iconst 1, 1) := by decide +kernel
theorem dX3_climb_22 : decode cX3_climb 22 = .ok (.iload_n 3, 1) := by decide +kernel
theorem dX3_climb_23 : decode cX3_climb 23 = .ok (.ishl, 1) := by decide +kernel
theorem dX3_climb_24 : decode cX3_climb 24 = .ok (.aload_n 0, 1) := by decide +kernel
theorem dX3_climb_25 : decode cX3_climb 25 = .ok (.getfield 36, 3) := by decide +kernel
theorem dX3_climb_28 : decode cX3_climb 28 = .ok (.getstatic 76, 3) := by decide +kernel
theorem dX3_climb_31 : decode cX3_climb 31 = .ok (.iload_n 3, 1) := by decide +kernel
theorem dX3_climb_32 : decode cX3_climb 32 = .ok (.iaload, 1) := by decide +kernel
theorem dX3_climb_33 : decode cX3_climb 33 = .ok (.iload 4, 2) := by decide +kernel
theorem dX3_climb_35 : decode cX3_climb 35 = .ok (.iload_n 3, 1) := by decide +kernel
theorem dX3_climb_36 : decode cX3_climb 36 = .ok (.ishr, 1) := by decide +kernel
theorem dX3_climb_37 : decode cX3_climb 37 = .ok (.iadd, 1) := by decide +kernel
theorem dX3_climb_38 : decode cX3_climb 38 = .ok (.invokevirtual 112, 3) := by decide +kernel
theorem dX3_climb_41 : decode cX3_climb 41 = .ok (.iload 4, 2) := by decide +kernel
theorem dX3_climb_43 : decode cX3_climb 43 = .ok (.iconst 1, 1) := by decide +kernel
theorem dX3_climb_44 : decode cX3_climb 44 = .ok (.iload_n 3, 1) := by decide +kernel
theorem dX3_climb_45 : decode cX3_climb 45 = .ok (.ishl, 1) := by decide +kernel
theorem dX3_climb_46 : decode cX3_climb 46 = .ok (.iadd, 1) := by decide +kernel
theorem dX3_climb_47 : decode cX3_climb 47 = .ok (.istore 4, 2) := by decide +kernel
theorem dX3_climb_49 : decode cX3_climb 49 = .ok (.goto (-44), 3) := by decide +kernel
theorem dX3_climb_52 : decode cX3_climb 52 = .ok (.return_, 1) := by decide +kernel
theorem dX3_copyFirst_0 : decode cX3_copyFirst 0 = .ok (.aload_n 0, 1) := by decide +kernel
theorem dX3_copyFirst_1 : decode cX3_copyFirst 1 = .ok (.aload_n 1, 1) := by decide +kernel
theorem dX3_copyFirst_2 : decode cX3_copyFirst 2 = .ok (.getfield 46, 3) := by decide +kernel
theorem dX3_copyFirst_5 : decode cX3_copyFirst 5 = .ok (.putfield 46, 3) := by decide +kernel
theorem dX3_copyFirst_8 : decode cX3_copyFirst 8 = .ok (.aload_n 0, 1) := by decide +kernel
theorem dX3_copyFirst_9 : decode cX3_copyFirst 9 = .ok (.iload_n 2, 1) := by decide +kernel
theorem dX3_copyFirst_10 : decode cX3_copyFirst 10 = .ok (.putfield 49, 3) := by decide +kernel
theorem dX3_copyFirst_13 : decode cX3_copyFirst 13 = .ok (.iconst 0, 1) := by decide +kernel
theorem dX3_copyFirst_14 : decode cX3_copyFirst 14 = .ok (.istore_n 3, 1) := by decide +kernel
theorem dX3_copyFirst_15 : decode cX3_copyFirst 15 = .ok (.iconst 0, 1) := by decide +kernel
theorem dX3_copyFirst_16 : decode cX3_copyFirst 16 = .ok (.istore 4, 2) := by decide +kernel
theorem dX3_copyFirst_18 : decode cX3_copyFirst 18 = .ok (.iload 4, 2) := by decide +kernel
theorem dX3_copyFirst_20 : decode cX3_copyFirst 20 = .ok (.iload_n 2, 1) := by decide +kernel
theorem dX3_copyFirst_21 : decode cX3_copyFirst 21 = .ok (.if_icmp .ge 23, 3) := by decide +kernel
theorem dX3_copyFirst_24 : decode cX3_copyFirst 24 = .ok (.iload_n 3, 1) := by decide +kernel
theorem dX3_copyFirst_25 : decode cX3_copyFirst 25 = .ok (.aload_n 1, 1) := by decide +kernel
theorem dX3_copyFirst_26 : decode cX3_copyFirst 26 = .ok (.getfield 25, 3) := by decide +kernel
theorem dX3_copyFirst_29 : decode cX3_copyFirst 29 = .ok (.iload 4, 2) := by decide +kernel
theorem dX3_copyFirst_31 : decode cX3_copyFirst 31 = .ok (.iaload, 1) := by decide +kernel
theorem dX3_copyFirst_32 : decode cX3_copyFirst 32 = .ok (.iconst 1, 1) := by decide +kernel
theorem dX3_copyFirst_33 : decode cX3_copyFirst 33 = .ok (.iadd, 1) := by decide +kernel
theorem dX3_copyFirst_34 : decode cX3_copyFirst 34 = .ok (.invokestatic 118, 3) := by decide +kernel
theorem dX3_copyFirst_37 : decode cX3_copyFirst 37 = .ok (.istore_n 3, 1) := by decide +kernel
theorem dX3_copyFirst_38 : decode cX3_copyFirst 38 = .ok (.iinc 4 1, 3) := by decide +kernel
theorem dX3_copyFirst_41 : decode cX3_copyFirst 41 = .ok (.goto (-23), 3) := by decide +kernel
theorem dX3_copyFirst_44 : decode cX3_copyFirst 44 = .ok (.aload_n 0, 1) := by decide +kernel
theorem dX3_copyFirst_45 : decode cX3_copyFirst 45 = .ok (.getfield 12, 3) := by decide +kernel
theorem dX3_copyFirst_48 : decode cX3_copyFirst 48 = .ok (.aload_n 1, 1) := by decide +kernel
theorem dX3_copyFirst_49 : decode cX3_copyFirst 49 = .ok (.getfield 12, 3) := by decide +kernel
theorem dX3_copyFirst_52 : decode cX3_copyFirst 52 = .ok (.iload_n 3, 1) := by decide +kernel
theorem dX3_copyFirst_53 : decode cX3_copyFirst 53 = .ok (.invokevirtual 123, 3) := by decide +kernel
theorem dX3_copyFirst_56 : decode cX3_copyFirst 56 = .ok (.aload_n 0, 1) := by decide +kernel
theorem dX3_copyFirst_57 : decode cX3_copyFirst 57 = .ok (.getfield 21, 3) := by decide +kernel
theorem dX3_copyFirst_60 : decode cX3_copyFirst 60 = .ok (.aload_n 1, 1) := by decide +kernel
theorem dX3_copyFirst_61 : decode cX3_copyFirst 61 = .ok (.getfield 21, 3) := by decide +kernel
theorem dX3_copyFirst_64 : decode cX3_copyFirst 64 = .ok (.iload_n 2, 1) := by decide +kernel
theorem dX3_copyFirst_65 : decode cX3_copyFirst 65 = .ok (.invokevirtual 127, 3) := by decide +kernel
theorem dX3_copyFirst_68 : decode cX3_copyFirst 68 = .ok (.aload_n 1, 1) := by decide +kernel
theorem dX3_copyFirst_69 : decode cX3_copyFirst 69 = .ok (.getfield 25, 3) := by decide +kernel
theorem dX3_copyFirst_72 : decode cX3_copyFirst 72 = .ok (.iconst 0, 1) := by decide +kernel
theorem dX3_copyFirst_73 : decode cX3_copyFirst 73 = .ok (.aload_n 0, 1) := by decide +kernel
theorem dX3_copyFirst_74 : decode cX3_copyFirst 74 = .ok (.getfield 25, 3) := by decide +kernel
theorem dX3_copyFirst_77 : decode cX3_copyFirst 77 = .ok (.iconst 0, 1) := by decide +kernel
theorem dX3_copyFirst_78 : decode cX3_copyFirst 78 = .ok (.iload_n 2, 1) := by decide +kernel
theorem dX3_copyFirst_79 : decode cX3_copyFirst 79 = .ok (.invokestatic 131, 3) := by decide +kernel
theorem dX3_copyFirst_82 : decode cX3_copyFirst 82 = .ok (.aload_n 1, 1) := by decide +kernel
theorem dX3_copyFirst_83 : decode cX3_copyFirst 83 = .ok (.getfield 29, 3) := by decide +kernel
theorem dX3_copyFirst_86 : decode cX3_copyFirst 86 = .ok (.iconst 0, 1) := by decide +kernel
theorem dX3_copyFirst_87 : decode cX3_copyFirst 87 = .ok (.aload_n 0, 1) := by decide +kernel
theorem dX3_copyFirst_88 : decode cX3_copyFirst 88 = .ok (.getfield 29, 3) := by decide +kernel
theorem dX3_copyFirst_91 : decode cX3_copyFirst 91 = .ok (.iconst 0, 1) := by decide +kernel
theorem dX3_copyFirst_92 : decode cX3_copyFirst 92 = .ok (.iload_n 2, 1) := by decide +kernel
theorem dX3_copyFirst_93 : decode cX3_copyFirst 93 = .ok (.invokestatic 131, 3) := by decide +kernel
theorem dX3_copyFirst_96 : decode cX3_copyFirst 96 = .ok (.aload_n 1, 1) := by decide +kernel
theorem dX3_copyFirst_97 : decode cX3_copyFirst 97 = .ok (.getfield 32, 3) := by decide +kernel
theorem dX3_copyFirst_100 : decode cX3_copyFirst 100 = .ok (.iconst 0, 1) := by decide +kernel
theorem dX3_copyFirst_101 : decode cX3_copyFirst 101 = .ok (.aload_n 0, 1) := by decide +kernel
theorem dX3_copyFirst_102 : decode cX3_copyFirst 102 = .ok (.getfield 32, 3) := by decide +kernel
theorem dX3_copyFirst_105 : decode cX3_copyFirst 105 = .ok (.iconst 0, 1) := by decide +kernel
theorem dX3_copyFirst_106 : decode cX3_copyFirst 106 = .ok (.iload_n 2, 1) := by decide +kernel
theorem dX3_copyFirst_107 : decode cX3_copyFirst 107 = .ok (.invokestatic 131, 3) := by decide +kernel
theorem dX3_copyFirst_110 : decode cX3_copyFirst 110 = .ok (.iconst 0, 1) := by decide +kernel
theorem dX3_copyFirst_111 : decode cX3_copyFirst 111 = .ok (.istore 4, 2) := by decide +kernel
theorem dX3_copyFirst_113 : decode cX3_copyFirst 113 = .ok (.iload 4, 2) := by decide +kernel
theorem dX3_copyFirst_115 : decode cX3_copyFirst 115 = .ok (.bipush 9, 2) := by decide +kernel
theorem dX3_copyFirst_117 : decode cX3_copyFirst 117 = .ok (.if_icmp .ge 42, 3) := by decide +kernel
theorem dX3_copyFirst_120 : decode cX3_copyFirst 120 = .ok (.getstatic 76, 3) := by decide +kernel
theorem dX3_copyFirst_123 : decode cX3_copyFirst 123 = .ok (.iload 4, 2) := by decide +kernel
theorem dX3_copyFirst_125 : decode cX3_copyFirst 125 = .ok (.iaload, 1) := by decide +kernel
theorem dX3_copyFirst_126 : decode cX3_copyFirst 126 = .ok (.bipush 8, 2) := by decide +kernel
theorem dX3_copyFirst_128 : decode cX3_copyFirst 128 = .ok (.imul, 1) := by decide +kernel
theorem dX3_copyFirst_129 : decode cX3_copyFirst 129 = .ok (.istore 5, 2) := by decide +kernel
theorem dX3_copyFirst_131 : decode cX3_copyFirst 131 = .ok (.aload_n 1, 1) := by decide +kernel
theorem dX3_copyFirst_132 : decode cX3_copyFirst 132 = .ok (.getfield 36, 3) := by decide +kernel
theorem dX3_copyFirst_135 : decode cX3_copyFirst 135 = .ok (.iload 5, 2) := by decide +kernel
theorem dX3_copyFirst_137 : decode cX3_copyFirst 137 = .ok (.aload_n 0, 1) := by decide +kernel
theorem dX3_copyFirst_138 : decode cX3_copyFirst 138 = .ok (.getfield 36, 3) := by decide +kernel
theorem dX3_copyFirst_141 : decode cX3_copyFirst 141 = .ok (.iload 5, 2) := by decide +kernel
theorem dX3_copyFirst_143 : decode cX3_copyFirst 143 = .ok (.iload_n 2, 1) := by decide +kernel
theorem dX3_copyFirst_144 : decode cX3_copyFirst 144 = .ok (.iload 4, 2) := by decide +kernel
theorem dX3_copyFirst_146 : decode cX3_copyFirst 146 = .ok (.ishr, 1) := by decide +kernel
theorem dX3_copyFirst_147 : decode cX3_copyFirst 147 = .ok (.bipush 8, 2) := by decide +kernel
theorem dX3_copyFirst_149 : decode cX3_copyFirst 149 = .ok (.imul, 1) := by decide +kernel
theorem dX3_copyFirst_150 : decode cX3_copyFirst 150 = .ok (.invokestatic 131, 3) := by decide +kernel
theorem dX3_copyFirst_153 : decode cX3_copyFirst 153 = .ok (.iinc 4 1, 3) := by decide +kernel
theorem dX3_copyFirst_156 : decode cX3_copyFirst 156 = .ok (.goto (-43), 3) := by decide +kernel
theorem dX3_copyFirst_159 : decode cX3_copyFirst 159 = .ok (.aload_n 0, 1) := by decide +kernel
theorem dX3_copyFirst_160 : decode cX3_copyFirst 160 = .ok (.iconst (-1), 1) := by decide +kernel
theorem dX3_copyFirst_161 : decode cX3_copyFirst 161 = .ok (.putfield 42, 3) := by decide +kernel
theorem dX3_copyFirst_164 : decode cX3_copyFirst 164 = .ok (.return_, 1) := by decide +kernel
theorem dX4_init_0 : decode cX4_init 0 = .ok (.aload_n 0, 1) := by decide +kernel
theorem dX4_init_1 : decode cX4_init 1 = .ok (.invokespecial 3, 3) := by decide +kernel
theorem dX4_init_4 : decode cX4_init 4 = .ok (.aload_n 0, 1) := by decide +kernel
theorem dX4_init_5 : decode cX4_init 5 = .ok (.sipush 400, 3) := by decide +kernel
theorem dX4_init_8 : decode cX4_init 8 = .ok (.newarray .int, 2) := by decide +kernel
theorem dX4_init_10 : decode cX4_init 10 = .ok (.putfield 9, 3) := by decide +kernel
theorem dX4_init_13 : decode cX4_init 13 = .ok (.aload_n 0, 1) := by decide +kernel
theorem dX4_init_14 : decode cX4_init 14 = .ok (.sipush 400, 3) := by decide +kernel
theorem dX4_init_17 : decode cX4_init 17 = .ok (.newarray .int, 2) := by decide +kernel
theorem dX4_init_19 : decode cX4_init 19 = .ok (.putfield 15, 3) := by decide +kernel
theorem dX4_init_22 : decode cX4_init 22 = .ok (.aload_n 0, 1) := by decide +kernel
theorem dX4_init_23 : decode cX4_init 23 = .ok (.sipush 2064, 3) := by decide +kernel
theorem dX4_init_26 : decode cX4_init 26 = .ok (.newarray .int, 2) := by decide +kernel
theorem dX4_init_28 : decode cX4_init 28 = .ok (.putfield 18, 3) := by decide +kernel
theorem dX4_init_31 : decode cX4_init 31 = .ok (.aload_n 0, 1) := by decide +kernel
theorem dX4_init_32 : decode cX4_init 32 = .ok (.bipush 8, 2) := by decide +kernel
theorem dX4_init_34 : decode cX4_init 34 = .ok (.newarray .int, 2) := by decide +kernel
theorem dX4_init_36 : decode cX4_init 36 = .ok (.putfield 21, 3) := by decide +kernel
theorem dX4_init_39 : decode cX4_init 39 = .ok (.aload_n 0, 1) := by decide +kernel
theorem dX4_init_40 : decode cX4_init 40 = .ok (.aload_n 1, 1) := by decide +kernel
theorem dX4_init_41 : decode cX4_init 41 = .ok (.putfield 24, 3) := by decide +kernel
theorem dX4_init_44 : decode cX4_init 44 = .ok (.return_, 1) := by decide +kernel
theorem dX4_read_0 : decode cX4_read 0 = .ok (.aload_n 0, 1) := by decide +kernel
theorem dX4_read_1 : decode cX4_read 1 = .ok (.getfield 9, 3) := by decide +kernel
theorem dX4_read_4 : decode cX4_read 4 = .ok (.iconst 0, 1) := by decide +kernel
theorem dX4_read_5 : decode cX4_read 5 = .ok (.aload_n 1, 1) := by decide +kernel
theorem dX4_read_6 : decode cX4_read 6 = .ok (.getfield 28, 3) := by decide +kernel
theorem dX4_read_9 : decode cX4_read 9 = .ok (.getfield 34, 3) := by decide +kernel
theorem dX4_read_12 : decode cX4_read 12 = .ok (.iconst (-1), 1) := by decide +kernel
theorem dX4_read_13 : decode cX4_read 13 = .ok (.invokestatic 40, 3) := by decide +kernel
theorem dX4_read_16 : decode cX4_read 16 = .ok (.iconst 0, 1) := by decide +kernel
theorem dX4_read_17 : decode cX4_read 17 = .ok (.istore_n 3, 1) := by decide +kernel
theorem dX4_read_18 : decode cX4_read 18 = .ok (.iload_n 3, 1) := by decide +kernel
theorem dX4_read_19 : decode cX4_read 19 = .ok (.iload_n 2, 1) := by decide +kernel
theorem dX4_read_20 : decode cX4_read 20 = .ok (.if_icmp .ge 21, 3) := by decide +kernel
theorem dX4_read_23 : decode cX4_read 23 = .ok (.aload_n 0, 1) := by decide +kernel
theorem dX4_read_24 : decode cX4_read 24 = .ok (.getfield 9, 3) := by decide +kernel
theorem dX4_read_27 : decode cX4_read 27 = .ok (.aload_n 1, 1) := by decide +kernel
theorem dX4_read_28 : decode cX4_read 28 = .ok (.getfield 46, 3) := by decide +kernel
theorem dX4_read_31 : decode cX4_read 31 = .ok (.iload_n 3, 1) := by decide +kernel
theorem dX4_read_32 : decode cX4_read 32 = .ok (.iaload, 1) := by decide +kernel
theorem dX4_read_33 : decode cX4_read 33 = .ok (.iload_n 3, 1) := by decide +kernel
theorem dX4_read_34 : decode cX4_read 34 = .ok (.iastore, 1) := by decide +kernel
theorem dX4_read_35 : decode cX4_read 35 = .ok (.iinc 3 1, 3) := by decide +kernel
theorem dX4_read_38 : decode cX4_read 38 = .ok (.goto (-20), 3) := by decide +kernel
theorem dX4_read_41 : decode cX4_read 41 = .ok (.iconst 0, 1) := by decide +kernel
theorem dX4_read_42 : decode cX4_read 42 = .ok (.istore_n 3, 1) := by decide +kernel
theorem dX4_read_43 : decode cX4_read 43 = .ok (.iload_n 3, 1) := by decide +kernel
theorem dX4_read_44 : decode cX4_read 44 = .ok (.aload_n 1, 1) := by decide +kernel
theorem dX4_read_45 : decode cX4_read 45 = .ok (.getfield 49, 3) := by decide +kernel
theorem dX4_read_48 : decode cX4_read 48 = .ok (.getfield 53, 3) := by decide +kernel
theorem dX4_read_51 : decode cX4_read 51 = .ok (.if_icmp .ge 28, 3) := by decide +kernel
theorem dX4_read_54 : decode cX4_read 54 = .ok (.aload_n 1, 1) := by decide +kernel
theorem dX4_read_55 : decode cX4_read 55 = .ok (.getfield 49, 3) := by decide +kernel
theorem dX4_read_58 : decode cX4_read 58 = .ok (.getfield 56, 3) := by decide +kernel
theorem dX4_read_61 : decode cX4_read 61 = .ok (.iload_n 3, 1) := by decide +kernel
theorem dX4_read_62 : decode cX4_read 62 = .ok (.iaload, 1) := by decide +kernel
theorem dX4_read_63 : decode cX4_read 63 = .ok (.iload_n 2, 1) := by decide +kernel
theorem dX4_read_64 : decode cX4_read 64 = .ok (.if_icmp .gt 9, 3) := by decide +kernel
theorem dX4_read_67 : decode cX4_read 67 = .ok (.aload_n 0, 1) := by decide +kernel
theorem dX4_read_68 : decode cX4_read 68 = .ok (.aload_n 1, 1) := by decide +kernel
theorem dX4_read_69 : decode cX4_read 69 = .ok (.iload_n 3, 1) := by decide +kernel
theorem dX4_read_70 : decode cX4_read 70 = .ok (.invokevirtual 59, 3) := by decide +kernel
theorem dX4_read_73 : decode cX4_read 73 = .ok (.iinc 3 1, 3) := by decide +kernel
theorem dX4_read_76 : decode cX4_read 76 = .ok (.goto (-33), 3) := by decide +kernel
theorem dX4_read_79 : decode cX4_read 79 = .ok (.aload_n 0, 1) := by decide +kernel
theorem dX4_read_80 : decode cX4_read 80 = .ok (.iconst 0, 1) := by decide +kernel
theorem dX4_read_81 : decode cX4_read 81 = .ok (.putfield 63, 3) := by decide +kernel
theorem dX4_read_84 : decode cX4_read 84 = .ok (.iconst 0, 1) := by decide +kernel
theorem dX4_read_85 : decode cX4_read 85 = .ok (.istore_n 3, 1) := by decide +kernel
theorem dX4_read_86 : decode cX4_read 86 = .ok (.iload_n 3, 1) := by decide +kernel
theorem dX4_read_87 : decode cX4_read 87 = .ok (.aload_n 1, 1) := by decide +kernel
theorem dX4_read_88 : decode cX4_read 88 = .ok (.getfield 28, 3) := by decide +kernel
theorem dX4_read_91 : decode cX4_read 91 = .ok (.getfield 34, 3) := by decide +kernel
theorem dX4_read_94 : decode cX4_read 94 = .ok (.if_icmp .ge 52, 3) := by decide +kernel
theorem dX4_read_97 : decode cX4_read 97 = .ok (.aload_n 1, 1) := by decide +kernel
theorem dX4_read_98 : decode cX4_read 98 = .ok (.getfield 28, 3) := by decide +kernel
theorem dX4_read_101 : decode cX4_read 101 = .ok (.getfield 64, 3) := by decide +kernel
theorem dX4_read_104 : decode cX4_read 104 = .ok (.iload_n 3, 1) := by decide +kernel
theorem dX4_read_105 : decode cX4_read 105 = .ok (.iaload, 1) := by decide +kernel
theorem dX4_read_106 : decode cX4_read 106 = .ok (.istore 4, 2) := by decide +kernel
theorem dX4_read_108 : decode cX4_read 108 = .ok (.aload_n 0, 1) := by decide +kernel
theorem dX4_read_109 : decode cX4_read 109 = .ok (.getfield 9, 3) := by decide +kernel
theorem dX4_read_112 : decode cX4_read 112 = .ok (.iload 4, 2) := by decide +kernel
theorem dX4_read_114 : decode cX4_read 114 = .ok (.iaload, 1) := by decide +kernel
theorem dX4_read_115 : decode cX4_read 115 = .ok (.iconst (-1), 1) := by decide +kernel
theorem dX4_read_116 : decode cX4_read 116 = .ok (.if_icmp .eq 24, 3) := by decide +kernel
theorem dX4_read_119 : decode cX4_read 119 = .ok (.aload_n 0, 1) := by decide +kernel
theorem dX4_read_120 : decode cX4_read 120 = .ok (.getfield 15, 3) := by decide +kernel
theorem dX4_read_123 : decode cX4_read 123 = .ok (.aload_n 0, 1) := by decide +kernel
theorem dX4_read_124 : decode cX4_read 124 = .ok (.getfield 63, 3) := by decide +kernel
theorem dX4_read_127 : decode cX4_read 127 = .ok (.iload 4, 2) := by decide +kernel
theorem dX4_read_129 : decode cX4_read 129 = .ok (.iastore, 1) := by decide +kernel
theorem dX4_read_130 : decode cX4_read 130 = .ok (.aload_n 0, 1) := by decide +kernel
theorem dX4_read_131 : decode cX4_read 131 = .ok (.dup, 1) := by decide +kernel
theorem dX4_read_132 : decode cX4_read 132 = .ok (.getfield 63, 3) := by decide +kernel
theorem dX4_read_135 : decode cX4_read 135 = .ok (.iconst 1, 1) := by decide +kernel
theorem dX4_read_136 : decode cX4_read 136 = .ok (.iadd, 1) := by decide +kernel
theorem dX4_read_137 : decode cX4_read 137 = .ok (.putfield 63, 3) := by decide +kernel
theorem dX4_read_140 : decode cX4_read 140 = .ok (.iinc 3 1, 3) := by decide +kernel
theorem dX4_read_143 : decode cX4_read 143 = .ok (.goto (-57), 3) := by decide +kernel
theorem dX4_read_146 : decode cX4_read 146 = .ok (.return_, 1) := by decide +kernel
theorem dX4_heed_0 : decode cX4_heed 0 = .ok (.aload_n 1, 1) := by decide +kernel
theorem dX4_heed_1 : decode cX4_heed 1 = .ok (.getfield 28, 3) := by decide +kernel
theorem dX4_heed_4 : decode cX4_heed 4 = .ok (.aload_n 1, 1) := by decide +kernel
theorem dX4_heed_5 : decode cX4_heed 5 = .ok (.getfield 49, 3) := by decide +kernel
theorem dX4_heed_8 : decode cX4_heed 8 = .ok (.getfield 67, 3) := by decide +kernel
theorem dX4_heed_11 : decode cX4_heed 11 = .ok (.iload_n 2, 1) := by decide +kernel
theorem dX4_heed_12 : decode cX4_heed 12 = .ok (.iaload, 1) := by decide +kernel
theorem dX4_heed_13 : decode cX4_heed 13 = .ok (.invokevirtual 70, 3) := by decide +kernel
theorem dX4_heed_16 : decode cX4_heed 16 = .ok (.istore_n 3, 1) := by decide +kernel
theorem dX4_heed_17 : decode cX4_heed 17 = .ok (.iload_n 3, 1) := by decide +kernel
theorem dX4_heed_18 : decode cX4_heed 18 = .ok (.iconst (-1), 1) := by decide +kernel
theorem dX4_heed_19 : decode cX4_heed 19 = .ok (.if_icmp .ne 4, 3) := by decide +kernel
theorem dX4_heed_22 : decode cX4_heed 22 = .ok (.return_, 1) := by decide +kernel
theorem dX4_heed_23 : decode cX4_heed 23 = .ok (.aload_n 0, 1) := by decide +kernel
theorem dX4_heed_24 : decode cX4_heed 24 = .ok (.getfield 9, 3) := by decide +kernel
theorem dX4_heed_27 : decode cX4_heed 27 = .ok (.iload_n 3, 1) := by decide +kernel
theorem dX4_heed_28 : decode cX4_heed 28 = .ok (.iconst (-1), 1) := by decide +kernel
theorem dX4_heed_29 : decode cX4_heed 29 = .ok (.iastore, 1) := by decide +kernel
theorem dX4_heed_30 : decode cX4_heed 30 = .ok (.aload_n 1, 1) := by decide +kernel
theorem dX4_heed_31 : decode cX4_heed 31 = .ok (.getfield 49, 3) := by decide +kernel
theorem dX4_heed_34 : decode cX4_heed 34 = .ok (.getfield 74, 3) := by decide +kernel
theorem dX4_heed_37 : decode cX4_heed 37 = .ok (.iload_n 2, 1) := by decide +kernel
theorem dX4_heed_38 : decode cX4_heed 38 = .ok (.baload, 1) := by decide +kernel
theorem dX4_heed_39 : decode cX4_heed 39 = .ok (.ifCond .eq 4, 3) := by decide +kernel
theorem dX4_heed_42 : decode cX4_heed 42 = .ok (.return_, 1) := by decide +kernel
theorem dX4_heed_43 : decode cX4_heed 43 = .ok (.iconst 0, 1) := by decide +kernel
theorem dX4_heed_44 : decode cX4_heed 44 = .ok (.istore 4, 2) := by decide +kernel
theorem dX4_heed_46 : decode cX4_heed 46 = .ok (.iload 4, 2) := by decide +kernel
theorem dX4_heed_48 : decode cX4_heed 48 = .ok (.aload_n 1, 1) := by decide +kernel
theorem dX4_heed_49 : decode cX4_heed 49 = .ok (.getfield 49, 3) := by decide +kernel
theorem dX4_heed_52 : decode cX4_heed 52 = .ok (.getfield 56, 3) := by decide +kernel
theorem dX4_heed_55 : decode cX4_heed 55 = .ok (.iload_n 2, 1) := by decide +kernel
theorem dX4_heed_56 : decode cX4_heed 56 = .ok (.iaload, 1) := by decide +kernel
theorem dX4_heed_57 : decode cX4_heed 57 = .ok (.if_icmp .ge 28, 3) := by decide +kernel
theorem dX4_heed_60 : decode cX4_heed 60 = .ok (.aload_n 1, 1) := by decide +kernel
theorem dX4_heed_61 : decode cX4_heed 61 = .ok (.getfield 46, 3) := by decide +kernel
theorem dX4_heed_64 : decode cX4_heed 64 = .ok (.iload 4, 2) := by decide +kernel
theorem dX4_heed_66 : decode cX4_heed 66 = .ok (.iaload, 1) := by decide +kernel
theorem dX4_heed_67 : decode cX4_heed 67 = .ok (.iload_n 3, 1) := by decide +kernel
theorem dX4_heed_68 : decode cX4_heed 68 = .ok (.if_icmp .ne 11, 3) := by decide +kernel
theorem dX4_heed_71 : decode cX4_heed 71 = .ok (.aload_n 0, 1) := by decide +kernel
theorem dX4_heed_72 : decode cX4_heed 72 = .ok (.getfield 9, 3) := by decide +kernel
theorem dX4_heed_75 : decode cX4_heed 75 = .ok (.iload_n 3, 1) := by decide +kernel
theorem dX4_heed_76 : decode cX4_heed 76 = .ok (.iload 4, 2) := by decide +kernel
theorem dX4_heed_78 : decode cX4_heed 78 = .ok (.iastore, 1) := by decide +kernel
theorem dX4_heed_79 : decode cX4_heed 79 = .ok (.iinc 4 1, 3) := by decide +kernel
theorem dX4_heed_82 : decode cX4_heed 82 = .ok (.goto (-36), 3) := by decide +kernel
theorem dX4_heed_85 : decode cX4_heed 85 = .ok (.return_, 1) := by decide +kernel
theorem dX4_latestOf_0 : decode cX4_latestOf 0 = .ok (.iload_n 1, 1) := by decide +kernel
theorem dX4_latestOf_1 : decode cX4_latestOf 1 = .ok (.ifCond .lt 19, 3) := by decide +kernel
theorem dX4_latestOf_4 : decode cX4_latestOf 4 = .ok (.iload_n 1, 1) := by decide +kernel
theorem dX4_latestOf_5 : decode cX4_latestOf 5 = .ok (.sipush 400, 3) := by decide +kernel
theorem dX4_latestOf_8 : decode cX4_latestOf 8 = .ok (.if_icmp .ge 12, 3) := by decide +kernel
theorem dX4_latestOf_11 : decode cX4_latestOf 11 = .ok (.aload_n 0, 1) := by decide +kernel
theorem dX4_latestOf_12 : decode cX4_latestOf 12 = .ok (.getfield 9, 3) := by decide +kernel
theorem dX4_latestOf_15 : decode cX4_latestOf 15 = .ok (.iload_n 1, 1) := by decide +kernel
theorem dX4_latestOf_16 : decode cX4_latestOf 16 = .ok (.iaload, 1) := by decide +kernel
theorem dX4_latestOf_17 : decode cX4_latestOf 17 = .ok (.goto 4, 3) := by decide +kernel
theorem dX4_latestOf_20 : decode cX4_latestOf 20 = .ok (.iconst (-1), 1) := by decide +kernel
theorem dX4_latestOf_21 : decode cX4_latestOf 21 = .ok (.ireturn, 1) := by decide +kernel
theorem dX4_writeTree_0 : decode cX4_writeTree 0 = .ok (.aload_n 0, 1) := by decide +kernel
theorem dX4_writeTree_1 : decode cX4_writeTree 1 = .ok (.aload_n 1, 1) := by decide +kernel
theorem dX4_writeTree_2 : decode cX4_writeTree 2 = .ok (.iconst 0, 1) := by decide +kernel
theorem dX4_writeTree_3 : decode cX4_writeTree 3 = .ok (.aload_n 0, 1) := by decide +kernel
theorem dX4_writeTree_4 : decode cX4_writeTree 4 = .ok (.getfield 63, 3) := by decide +kernel
theorem dX4_writeTree_7 : decode cX4_writeTree 7 = .ok (.iconst 0, 1) := by decide +kernel
theorem dX4_writeTree_8 : decode cX4_writeTree 8 = .ok (.iconst 0, 1) := by decide +kernel
theorem dX4_writeTree_9 : decode cX4_writeTree 9 = .ok (.invokestatic 78, 3) := by decide +kernel
theorem dX4_writeTree_12 : decode cX4_writeTree 12 = .ok (.aload_n 0, 1) := by decide +kernel
theorem dX4_writeTree_13 : decode cX4_writeTree 13 = .ok (.getfield 18, 3) := by decide +kernel
theorem dX4_writeTree_16 : decode cX4_writeTree 16 = .ok (.iconst 0, 1) := by decide +kernel
theorem dX4_writeTree_17 : decode cX4_writeTree 17 = .ok (.aload_n 2, 1) := by decide +kernel
theorem dX4_writeTree_18 : decode cX4_writeTree 18 = .ok (.iconst 0, 1) := by decide +kernel
theorem dX4_writeTree_19 : decode cX4_writeTree 19 = .ok (.invokestatic 82, 3) := by decide +kernel
theorem dX4_writeTree_22 : decode cX4_writeTree 22 = .ok (.return_, 1) := by decide +kernel
theorem dX4_showWay_0 : decode cX4_showWay 0 = .ok (.aload_n 0, 1) := by decide +kernel
theorem dX4_showWay_1 : decode cX4_showWay 1 = .ok (.getfield 24, 3) := by decide +kernel
theorem dX4_showWay_4 : decode cX4_showWay 4 = .ok (.aload_n 2, 1) := by decide +kernel
theorem dX4_showWay_5 : decode cX4_showWay 5 = .ok (.getfield 86, 3) := by decide +kernel
theorem dX4_showWay_8 : decode cX4_showWay 8 = .ok (.aload_n 0, 1) := by decide +kernel
theorem dX4_showWay_9 : decode cX4_showWay 9 = .ok (.getfield 21, 3) := by decide +kernel
theorem dX4_showWay_12 : decode cX4_showWay 12 = .ok (.iconst 0, 1) := by decide +kernel
theorem dX4_showWay_13 : decode cX4_showWay 13 = .ok (.invokevirtual 91, 3) := by decide +kernel
theorem dX4_showWay_16 : decode cX4_showWay 16 = .ok (.iconst 0, 1) := by decide +kernel
theorem dX4_showWay_17 : decode cX4_showWay 17 = .ok (.istore_n 3, 1) := by decide +kernel
theorem dX4_showWay_18 : decode cX4_showWay 18 = .ok (.aload_n 0, 1) := by decide +kernel
theorem dX4_showWay_19 : decode cX4_showWay 19 = .ok (.getfield 63, 3) := by decide +kernel
theorem dX4_showWay_22 : decode cX4_showWay 22 = .ok (.istore 4, 2) := by decide +kernel
theorem dX4_showWay_24 : decode cX4_showWay 24 = .ok (.iconst 0, 1) := by decide +kernel
theorem dX4_showWay_25 : decode cX4_showWay 25 = .ok (.istore 5, 2) := by decide +kernel
theorem dX4_showWay_27 : decode cX4_showWay 27 = .ok (.iload 5, 2) := by decide +kernel
theorem dX4_showWay_29 : decode cX4_showWay 29 = .ok (.sipush 256, 3) := by decide +kernel
theorem dX4_showWay_32 : decode cX4_showWay 32 = .ok (.if_icmp .ge 88, 3) := by decide +kernel
theorem dX4_showWay_35 : decode cX4_showWay 35 = .ok (.iload 4, 2) := by decide +kernel
theorem dX4_showWay_37 : decode cX4_showWay 37 = .ok (.iload_n 3, 1) := by decide +kernel
theorem dX4_showWay_38 : decode cX4_showWay 38 = .ok (.isub, 1) := by decide +kernel
theorem dX4_showWay_39 : decode cX4_showWay 39 = .ok (.iconst 1, 1) := by decide +kernel
theorem dX4_showWay_40 : decode cX4_showWay 40 = .ok (.if_icmp .le 80, 3) := by decide +kernel
theorem dX4_showWay_43 : decode cX4_showWay 43 = .ok (.aload_n 0, 1) := by decide +kernel
theorem dX4_showWay_44 : decode cX4_showWay 44 = .ok (.aload_n 1, 1) := by decide +kernel
theorem dX4_showWay_45 : decode cX4_showWay 45 = .ok (.iload_n 3, 1) := by decide +kernel
theorem dX4_showWay_46 : decode cX4_showWay 46 = .ok (.iload 4, 2) := by decide +kernel
theorem dX4_showWay_48 : decode cX4_showWay 48 = .ok (.iload 5, 2) := by decide +kernel
theorem dX4_showWay_50 : decode cX4_showWay 50 = .ok (.invokevirtual 97, 3) := by decide +kernel
theorem dX4_showWay_53 : decode cX4_showWay 53 = .ok (.istore 6, 2) := by decide +kernel
theorem dX4_showWay_55 : decode cX4_showWay 55 = .ok (.aload_n 0, 1) := by decide +kernel
theorem dX4_showWay_56 : decode cX4_showWay 56 = .ok (.getfield 21, 3) := by decide +kernel
theorem dX4_showWay_59 : decode cX4_showWay 59 = .ok (.iconst 0, 1) := by decide +kernel
theorem dX4_showWay_60 : decode cX4_showWay 60 = .ok (.iload 5, 2) := by decide +kernel
theorem dX4_showWay_62 : decode cX4_showWay 62 = .ok (.invokestatic 101, 3) := by decide +kernel
theorem dX4_showWay_65 : decode cX4_showWay 65 = .ok (.ifCond .ne 24, 3) := by decide +kernel
theorem dX4_showWay_68 : decode cX4_showWay 68 = .ok (.aload_n 0, 1) := by decide +kernel
theorem dX4_showWay_69 : decode cX4_showWay 69 = .ok (.aload_n 1, 1) := by decide +kernel
theorem dX4_showWay_70 : decode cX4_showWay 70 = .ok (.iload 6, 2) := by decide +kernel
theorem dX4_showWay_72 : decode cX4_showWay 72 = .ok (.iload 4, 2) := by decide +kernel
theorem dX4_showWay_74 : decode cX4_showWay 74 = .ok (.iload 5, 2) := by decide +kernel
theorem dX4_showWay_76 : decode cX4_showWay 76 = .ok (.iconst 1, 1) := by decide +kernel
theorem dX4_showWay_77 : decode cX4_showWay 77 = .ok (.iadd, 1) := by decide +kernel
theorem dX4_showWay_78 : decode cX4_showWay 78 = .ok (.iconst 0, 1) := by decide +kernel
theorem dX4_showWay_79 : decode cX4_showWay 79 = .ok (.invokestatic 78, 3) := by decide +kernel
theorem dX4_showWay_82 : decode cX4_showWay 82 = .ok (.iload 6, 2) := by decide +kernel
theorem dX4_showWay_84 : decode cX4_showWay 84 = .ok (.istore 4, 2) := by decide +kernel
theorem dX4_showWay_86 : decode cX4_showWay 86 = .ok (.goto 19, 3) := by decide +kernel
theorem dX4_showWay_89 : decode cX4_showWay 89 = .ok (.aload_n 0, 1) := by decide +kernel
theorem dX4_showWay_90 : decode cX4_showWay 90 = .ok (.aload_n 1, 1) := by decide +kernel
theorem dX4_showWay_91 : decode cX4_showWay 91 = .ok (.iload_n 3, 1) := by decide +kernel
theorem dX4_showWay_92 : decode cX4_showWay 92 = .ok (.iload 6, 2) := by decide +kernel
theorem dX4_showWay_94 : decode cX4_showWay 94 = .ok (.iload 5, 2) := by decide +kernel
theorem dX4_showWay_96 : decode cX4_showWay 96 = .ok (.iconst 1, 1) := by decide +kernel
theorem dX4_showWay_97 : decode cX4_showWay 97 = .ok (.iadd, 1) := by decide +kernel
theorem dX4_showWay_98 : decode cX4_showWay 98 = .ok (.iconst 0, 1) := by decide +kernel
theorem dX4_showWay_99 : decode cX4_showWay 99 = .ok (.invokestatic 78, 3) := by decide +kernel
theorem dX4_showWay_102 : decode cX4_showWay 102 = .ok (.iload 6, 2) := by decide +kernel
theorem dX4_showWay_104 : decode cX4_showWay 104 = .ok (.istore_n 3, 1) := by decide +kernel
theorem dX4_showWay_105 : decode cX4_showWay 105 = .ok (.aload_n 2, 1) := by decide +kernel
theorem dX4_showWay_106 : decode cX4_showWay 106 = .ok (.aload_n 0, 1) := by decide +kernel
theorem dX4_showWay_107 : decode cX4_showWay 107 = .ok (.getfield 18, 3) := by decide +kernel
theorem dX4_showWay_110 : decode cX4_showWay 110 = .ok (.iconst 0, 1) := by decide +kernel
theorem dX4_showWay_111 : decode cX4_showWay 111 = .ok (.invokevirtual 105, 3) := by decide +kernel
theorem dX4_showWay_114 : decode cX4_showWay 114 = .ok (.iinc 5 1, 3) := by decide +kernel
theorem dX4_showWay_117 : decode cX4_showWay 117 = .ok (.goto (-90), 3) := by decide +kernel
theorem dX4_showWay_120 : decode cX4_showWay 120 = .ok (.iload 4, 2) := by decide +kernel
theorem dX4_showWay_122 : decode cX4_showWay 122 = .ok (.iload_n 3, 1) := by decide +kernel
theorem dX4_showWay_123 : decode cX4_showWay 123 = .ok (.if_icmp .le 12, 3) := by decide +kernel
theorem dX4_showWay_126 : decode cX4_showWay 126 = .ok (.aload_n 0, 1) := by decide +kernel
theorem dX4_showWay_127 : decode cX4_showWay 127 = .ok (.getfield 15, 3) := by decide +kernel
theorem dX4_showWay_130 : decode cX4_showWay 130 = .ok (.iload_n 3, 1) := by decide +kernel
theorem dX4_showWay_131 : decode cX4_showWay 131 = .ok (.iaload, 1) := by decide +kernel
theorem dX4_showWay_132 : decode cX4_showWay 132 = .ok (.goto 4, 3) := by decide +kernel
theorem dX4_showWay_135 : decode cX4_showWay 135 = .ok (.iconst (-1), 1) := by decide +kernel
theorem dX4_showWay_136 : decode cX4_showWay 136 = .ok (.ireturn, 1) := by decide +kernel
theorem dX4_partingOf_0 : decode cX4_partingOf 0 = .ok (.iload_n 2, 1) := by decide +kernel
theorem dX4_partingOf_1 : decode cX4_partingOf 1 = .ok (.istore 5, 2) := by decide +kernel
theorem dX4_partingOf_3 : decode cX4_partingOf 3 = .ok (.iload 5, 2) := by decide +kernel
theorem dX4_partingOf_5 : decode cX4_partingOf 5 = .ok (.iload_n 3, 1) := by decide +kernel
theorem dX4_partingOf_6 : decode cX4_partingOf 6 = .ok (.if_icmp .ge 28, 3) := by decide +kernel
theorem dX4_partingOf_9 : decode cX4_partingOf 9 = .ok (.aload_n 1, 1) := by decide +kernel
theorem dX4_partingOf_10 : decode cX4_partingOf 10 = .ok (.getfield 109, 3) := by decide +kernel
theorem dX4_partingOf_13 : decode cX4_partingOf 13 = .ok (.aload_n 0, 1) := by decide +kernel
theorem dX4_partingOf_14 : decode cX4_partingOf 14 = .ok (.getfield 15, 3) := by decide +kernel
theorem dX4_partingOf_17 : decode cX4_partingOf 17 = .ok (.iload 5, 2) := by decide +kernel
theorem dX4_partingOf_19 : decode cX4_partingOf 19 = .ok (.iaload, 1) := by decide +kernel
theorem dX4_partingOf_20 : decode cX4_partingOf 20 = .ok (.iload 4, 2) := by decide +kernel
theorem dX4_partingOf_22 : decode cX4_partingOf 22 = .ok (.invokestatic 101, 3) := by decide +kernel
theorem dX4_partingOf_25 : decode cX4_partingOf 25 = .ok (.ifCond .ne 9, 3) := by decide +kernel
theorem dX4_partingOf_28 : decode cX4_partingOf 28 = .ok (.iinc 5 1, 3) := by decide +kernel
theorem dX4_partingOf_31 : decode cX4_partingOf 31 = .ok (.goto (-28), 3) := by decide +kernel
theorem dX4_partingOf_34 : decode cX4_partingOf 34 = .ok (.iload 5, 2) := by decide +kernel
theorem dX4_partingOf_36 : decode cX4_partingOf 36 = .ok (.ireturn, 1) := by decide +kernel
theorem dX4_plant_0 : decode cX4_plant 0 = .ok (.iload_n 3, 1) := by decide +kernel
theorem dX4_plant_1 : decode cX4_plant 1 = .ok (.iload_n 2, 1) := by decide +kernel
theorem dX4_plant_2 : decode cX4_plant 2 = .ok (.isub, 1) := by decide +kernel
theorem dX4_plant_3 : decode cX4_plant 3 = .ok (.iconst 1, 1) := by decide +kernel
theorem dX4_plant_4 : decode cX4_plant 4 = .ok (.if_icmp .ne 38, 3) := by decide +kernel
theorem dX4_plant_7 : decode cX4_plant 7 = .ok (.aload_n 0, 1) := by decide +kernel
theorem dX4_plant_8 : decode cX4_plant 8 = .ok (.getfield 15, 3) := by decide +kernel
theorem dX4_plant_11 : decode cX4_plant 11 = .ok (.iload_n 2, 1) := by decide +kernel
theorem dX4_plant_12 : decode cX4_plant 12 = .ok (.iaload, 1) := by decide +kernel
theorem dX4_plant_13 : decode cX4_plant 13 = .ok (.istore 6, 2) := by decide +kernel
theorem dX4_plant_15 : decode cX4_plant 15 = .ok (.aload_n 0, 1) := by decide +kernel
theorem dX4_plant_16 : decode cX4_plant 16 = .ok (.getfield 24, 3) := by decide +kernel
theorem dX4_plant_19 : decode cX4_plant 19 = .ok (.aload_n 1, 1) := by decide +kernel
theorem dX4_plant_20 : decode cX4_plant 20 = .ok (.iload 6, 2) := by decide +kernel
theorem dX4_plant_22 : decode cX4_plant 22 = .ok (.invokevirtual 112, 3) := by decide +kernel
theorem dX4_plant_25 : decode cX4_plant 25 = .ok (.aload_n 0, 1) := by decide +kernel
theorem dX4_plant_26 : decode cX4_plant 26 = .ok (.getfield 9, 3) := by decide +kernel
theorem dX4_plant_29 : decode cX4_plant 29 = .ok (.iload 6, 2) := by decide +kernel
theorem dX4_plant_31 : decode cX4_plant 31 = .ok (.iaload, 1) := by decide +kernel
theorem dX4_plant_32 : decode cX4_plant 32 = .ok (.aload_n 0, 1) := by decide +kernel
theorem dX4_plant_33 : decode cX4_plant 33 = .ok (.getfield 18, 3) := by decide +kernel
theorem dX4_plant_36 : decode cX4_plant 36 = .ok (.iload 5, 2) := by decide +kernel
theorem dX4_plant_38 : decode cX4_plant 38 = .ok (.invokevirtual 115, 3) := by decide +kernel
theorem dX4_plant_41 : decode cX4_plant 41 = .ok (.return_, 1) := by decide +kernel
theorem dX4_plant_42 : decode cX4_plant 42 = .ok (.iload_n 2, 1) := by decide +kernel
theorem dX4_plant_43 : decode cX4_plant 43 = .ok (.iload_n 3, 1) := by decide +kernel
theorem dX4_plant_44 : decode cX4_plant 44 = .ok (.if_icmp .ge 11, 3) := by decide +kernel
theorem dX4_plant_47 : decode cX4_plant 47 = .ok (.iload 4, 2) := by decide +kernel
theorem dX4_plant_49 : decode cX4_plant 49 = .ok (.sipush 256, 3) := by decide +kernel
theorem dX4_plant_52 : decode cX4_plant 52 = .ok (.if_icmp .lt 13, 3) := by decide +kernel
theorem dX4_plant_55 : decode cX4_plant 55 = .ok (.aload_n 0, 1) := by decide +kernel
theorem dX4_plant_56 : decode cX4_plant 56 = .ok (.getfield 18, 3) := by decide +kernel
theorem dX4_plant_59 : decode cX4_plant 59 = .ok (.iload 5, 2) := by decide +kernel
theorem dX4_plant_61 : decode cX4_plant 61 = .ok (.invokestatic 119, 3) := by decide +kernel
theorem dX4_plant_64 : decode cX4_plant 64 = .ok (.return_, 1) := by decide +kernel
theorem dX4_plant_65 : decode cX4_plant 65 = .ok (.aload_n 0, 1) := by decide +kernel
theorem dX4_plant_66 : decode cX4_plant 66 = .ok (.aload_n 1, 1) := by decide +kernel
theorem dX4_plant_67 : decode cX4_plant 67 = .ok (.iload_n 2, 1) := by decide +kernel
theorem dX4_plant_68 : decode cX4_plant 68 = .ok (.iload_n 3, 1) := by decide +kernel
theorem dX4_plant_69 : decode cX4_plant 69 = .ok (.iload 4, 2) := by decide +kernel
theorem dX4_plant_71 : decode cX4_plant 71 = .ok (.invokevirtual 97, 3) := by decide +kernel
theorem dX4_plant_74 : decode cX4_plant 74 = .ok (.istore 6, 2) := by decide +kernel
theorem dX4_plant_76 : decode cX4_plant 76 = .ok (.aload_n 0, 1) := by decide +kernel
theorem dX4_plant_77 : decode cX4_plant 77 = .ok (.aload_n 1, 1) := by decide +kernel
theorem dX4_plant_78 : decode cX4_plant 78 = .ok (.iload_n 2, 1) := by decide +kernel
theorem dX4_plant_79 : decode cX4_plant 79 = .ok (.iload 6, 2) := by decide +kernel
theorem dX4_plant_81 : decode cX4_plant 81 = .ok (.iload 4, 2) := by decide +kernel
theorem dX4_plant_83 : decode cX4_plant 83 = .ok (.iconst 1, 1) := by decide +kernel
theorem dX4_plant_84 : decode cX4_plant 84 = .ok (.iadd, 1) := by decide +kernel
theorem dX4_plant_85 : decode cX4_plant 85 = .ok (.iload 5, 2) := by decide +kernel
theorem dX4_plant_87 : decode cX4_plant 87 = .ok (.invokestatic 78, 3) := by decide +kernel
theorem dX4_plant_90 : decode cX4_plant 90 = .ok (.aload_n 0, 1) := by decide +kernel
theorem dX4_plant_91 : decode cX4_plant 91 = .ok (.aload_n 1, 1) := by decide +kernel
theorem dX4_plant_92 : decode cX4_plant 92 = .ok (.iload 6, 2) := by decide +kernel
theorem dX4_plant_94 : decode cX4_plant 94 = .ok (.iload_n 3, 1) := by decide +kernel
theorem dX4_plant_95 : decode cX4_plant 95 = .ok (.iload 4, 2) := by decide +kernel
theorem dX4_plant_97 : decode cX4_plant 97 = .ok (.iconst 1, 1) := by decide +kernel
theorem dX4_plant_98 : decode cX4_plant 98 = .ok (.iadd, 1) := by decide +kernel
theorem dX4_plant_99 : decode cX4_plant 99 = .ok (.iload 5, 2) := by decide +kernel
theorem dX4_plant_101 : decode cX4_plant 101 = .ok (.iconst 1, 1) := by decide +kernel
theorem dX4_plant_102 : decode cX4_plant 102 = .ok (.iadd, 1) := by decide +kernel
theorem dX4_plant_103 : decode cX4_plant 103 = .ok (.invokestatic 78, 3) := by decide +kernel
theorem dX4_plant_106 : decode cX4_plant 106 = .ok (.aload_n 0, 1) := by decide +kernel
theorem dX4_plant_107 : decode cX4_plant 107 = .ok (.getfield 24, 3) := by decide +kernel
theorem dX4_plant_110 : decode cX4_plant 110 = .ok (.aload_n 0, 1) := by decide +kernel
theorem dX4_plant_111 : decode cX4_plant 111 = .ok (.getfield 18, 3) := by decide +kernel
theorem dX4_plant_114 : decode cX4_plant 114 = .ok (.iload 5, 2) := by decide +kernel
theorem dX4_plant_116 : decode cX4_plant 116 = .ok (.aload_n 0, 1) := by decide +kernel
theorem dX4_plant_117 : decode cX4_plant 117 = .ok (.getfield 18, 3) := by decide +kernel
theorem dX4_plant_120 : decode cX4_plant 120 = .ok (.iload 5, 2) := by decide +kernel
theorem dX4_plant_122 : decode cX4_plant 122 = .ok (.iconst 1, 1) := by decide +kernel
theorem dX4_plant_123 : decode cX4_plant 123 = .ok (.iadd, 1) := by decide +kernel
theorem dX4_plant_124 : decode cX4_plant 124 = .ok (.aload_n 0, 1) := by decide +kernel
theorem dX4_plant_125 : decode cX4_plant 125 = .ok (.getfield 18, 3) := by decide +kernel
theorem dX4_plant_128 : decode cX4_plant 128 = .ok (.iload 5, 2) := by decide +kernel
theorem dX4_plant_130 : decode cX4_plant 130 = .ok (.invokevirtual 122, 3) := by decide +kernel
theorem dX4_plant_133 : decode cX4_plant 133 = .ok (.return_, 1) := by decide +kernel
theorem dX5_init_0 : decode cX5_init 0 = .ok (.aload_n 0, 1) := by decide +kernel
theorem dX5_init_1 : decode cX5_init 1 = .ok (.invokespecial 3, 3) := by decide +kernel
theorem dX5_init_4 : decode cX5_init 4 = .ok (.aload_n 0, 1) := by decide +kernel
theorem dX5_init_5 : decode cX5_init 5 = .ok (.bipush 100, 2) := by decide +kernel
theorem dX5_init_7 : decode cX5_init 7 = .ok (.newarray .int, 2) := by decide +kernel
theorem dX5_init_9 : decode cX5_init 9 = .ok (.putfield 9, 3) := by decide +kernel
theorem dX5_init_12 : decode cX5_init 12 = .ok (.aload_n 0, 1) := by decide +kernel
theorem dX5_init_13 : decode cX5_init 13 = .ok (.bipush 100, 2) := by decide +kernel
theorem dX5_init_15 : decode cX5_init 15 = .ok (.newarray .int, 2) := by decide +kernel
theorem dX5_init_17 : decode cX5_init 17 = .ok (.putfield 15, 3) := by decide +kernel
theorem dX5_init_20 : decode cX5_init 20 = .ok (.aload_n 0, 1) := by decide +kernel
theorem dX5_init_21 : decode cX5_init 21 = .ok (.bipush 100, 2) := by decide +kernel
theorem dX5_init_23 : decode cX5_init 23 = .ok (.newarray .boolean, 2) := by decide +kernel
theorem dX5_init_25 : decode cX5_init 25 = .ok (.putfield 18, 3) := by decide +kernel
theorem dX5_init_28 : decode cX5_init 28 = .ok (.return_, 1) := by decide +kernel
theorem dX5_tell_0 : decode cX5_tell 0 = .ok (.aload_n 0, 1) := by decide +kernel
theorem dX5_tell_1 : decode cX5_tell 1 = .ok (.getfield 22, 3) := by decide +kernel
theorem dX5_tell_4 : decode cX5_tell 4 = .ok (.bipush 100, 2) := by decide +kernel
theorem dX5_tell_6 : decode cX5_tell 6 = .ok (.if_icmp .ge 11, 3) := by decide +kernel
theorem dX5_tell_9 : decode cX5_tell 9 = .ok (.aload_n 0, 1) := by decide +kernel
theorem dX5_tell_10 : decode cX5_tell 10 = .ok (.iload_n 1, 1) := by decide +kernel
theorem dX5_tell_11 : decode cX5_tell 11 = .ok (.invokevirtual 26, 3) := by decide +kernel
theorem dX5_tell_14 : decode cX5_tell 14 = .ok (.ifCond .eq 5, 3) := by decide +kernel
theorem dX5_tell_17 : decode cX5_tell 17 = .ok (.iconst 0, 1) := by decide +kernel
theorem dX5_tell_18 : decode cX5_tell 18 = .ok (.ireturn, 1) := by decide +kernel
theorem dX5_tell_19 : decode cX5_tell 19 = .ok (.aload_n 0, 1) := by decide +kernel
theorem dX5_tell_20 : decode cX5_tell 20 = .ok (.getfield 9, 3) := by decide +kernel
theorem dX5_tell_23 : decode cX5_tell 23 = .ok (.aload_n 0, 1) := by decide +kernel
theorem dX5_tell_24 : decode cX5_tell 24 = .ok (.getfield 22, 3) := by decide +kernel
theorem dX5_tell_27 : decode cX5_tell 27 = .ok (.iload_n 1, 1) := by decide +kernel
theorem dX5_tell_28 : decode cX5_tell 28 = .ok (.iastore, 1) := by decide +kernel
theorem dX5_tell_29 : decode cX5_tell 29 = .ok (.aload_n 0, 1) := by decide +kernel
theorem dX5_tell_30 : decode cX5_tell 30 = .ok (.getfield 15, 3) := by decide +kernel
theorem dX5_tell_33 : decode cX5_tell 33 = .ok (.aload_n 0, 1) := by decide +kernel
theorem dX5_tell_34 : decode cX5_tell 34 = .ok (.getfield 22, 3) := by decide +kernel
theorem dX5_tell_37 : decode cX5_tell 37 = .ok (.iload_n 2, 1) := by decide +kernel
theorem dX5_tell_38 : decode cX5_tell 38 = .ok (.iastore, 1) := by decide +kernel
theorem dX5_tell_39 : decode cX5_tell 39 = .ok (.aload_n 0, 1) := by decide +kernel
theorem dX5_tell_40 : decode cX5_tell 40 = .ok (.getfield 18, 3) := by decide +kernel
theorem dX5_tell_43 : decode cX5_tell 43 = .ok (.aload_n 0, 1) := by decide +kernel
theorem dX5_tell_44 : decode cX5_tell 44 = .ok (.getfield 22, 3) := by decide +kernel
theorem dX5_tell_47 : decode cX5_tell 47 = .ok (.iload_n 3, 1) := by decide +kernel
theorem dX5_tell_48 : decode cX5_tell 48 = .ok (.bastore, 1) := by decide +kernel
theorem dX5_tell_49 : decode cX5_tell 49 = .ok (.aload_n 0, 1) := by decide +kernel
theorem dX5_tell_50 : decode cX5_tell 50 = .ok (.dup, 1) := by decide +kernel
theorem dX5_tell_51 : decode cX5_tell 51 = .ok (.getfield 22, 3) := by decide +kernel
theorem dX5_tell_54 : decode cX5_tell 54 = .ok (.iconst 1, 1) := by decide +kernel
theorem dX5_tell_55 : decode cX5_tell 55 = .ok (.iadd, 1) := by decide +kernel
theorem dX5_tell_56 : decode cX5_tell 56 = .ok (.putfield 22, 3) := by decide +kernel
theorem dX5_tell_59 : decode cX5_tell 59 = .ok (.iconst 1, 1) := by decide +kernel
theorem dX5_tell_60 : decode cX5_tell 60 = .ok (.ireturn, 1) := by decide +kernel
theorem dX5_isTold_0 : decode cX5_isTold 0 = .ok (.iconst 0, 1) := by decide +kernel
theorem dX5_isTold_1 : decode cX5_isTold 1 = .ok (.istore_n 2, 1) := by decide +kernel
theorem dX5_isTold_2 : decode cX5_isTold 2 = .ok (.iload_n 2, 1) := by decide +kernel
theorem dX5_isTold_3 : decode cX5_isTold 3 = .ok (.aload_n 0, 1) := by decide +kernel
theorem dX5_isTold_4 : decode cX5_isTold 4 = .ok (.getfield 22, 3) := by decide +kernel
theorem dX5_isTold_7 : decode cX5_isTold 7 = .ok (.if_icmp .ge 21, 3) := by decide +kernel
theorem dX5_isTold_10 : decode cX5_isTold 10 = .ok (.aload_n 0, 1) := by decide +kernel
theorem dX5_isTold_11 : decode cX5_isTold 11 = .ok (.getfield 9, 3) := by decide +kernel
theorem dX5_isTold_14 : decode cX5_isTold 14 = .ok (.iload_n 2, 1) := by decide +kernel
theorem dX5_isTold_15 : decode cX5_isTold 15 = .ok (.iaload, 1) := by decide +kernel
theorem dX5_isTold_16 : decode cX5_isTold 16 = .ok (.iload_n 1, 1) := by decide +kernel
theorem dX5_isTold_17 : decode cX5_isTold 17 = .ok (.if_icmp .ne 5, 3) := by decide +kernel
theorem dX5_isTold_20 : decode cX5_isTold 20 = .ok (.iconst 1, 1) := by decide +kernel
theorem dX5_isTold_21 : decode cX5_isTold 21 = .ok (.ireturn, 1) := by decide +kernel
theorem dX5_isTold_22 : decode cX5_isTold 22 = .ok (.iinc 2 1, 3) := by decide +kernel
theorem dX5_isTold_25 : decode cX5_isTold 25 = .ok (.goto (-23), 3) := by decide +kernel
theorem dX5_isTold_28 : decode cX5_isTold 28 = .ok (.iconst 0, 1) := by decide +kernel
theorem dX5_isTold_29 : decode cX5_isTold 29 = .ok (.ireturn, 1) := by decide +kernel
theorem dX5_howMany_0 : decode cX5_howMany 0 = .ok (.iconst 0, 1) := by decide +kernel
theorem dX5_howMany_1 : decode cX5_howMany 1 = .ok (.istore_n 2, 1) := by decide +kernel
theorem dX5_howMany_2 : decode cX5_howMany 2 = .ok (.iconst 0, 1) := by decide +kernel
theorem dX5_howMany_3 : decode cX5_howMany 3 = .ok (.istore_n 3, 1) := by decide +kernel
theorem dX5_howMany_4 : decode cX5_howMany 4 = .ok (.iload_n 3, 1) := by decide +kernel
theorem dX5_howMany_5 : decode cX5_howMany 5 = .ok (.aload_n 0, 1) := by decide +kernel
theorem dX5_howMany_6 : decode cX5_howMany 6 = .ok (.getfield 22, 3) := by decide +kernel
theorem dX5_howMany_9 : decode cX5_howMany 9 = .ok (.if_icmp .ge 22, 3) := by decide +kernel
theorem dX5_howMany_12 : decode cX5_howMany 12 = .ok (.aload_n 0, 1) := by decide +kernel
theorem dX5_howMany_13 : decode cX5_howMany 13 = .ok (.getfield 18, 3) := by decide +kernel
theorem dX5_howMany_16 : decode cX5_howMany 16 = .ok (.iload_n 3, 1) := by decide +kernel
theorem dX5_howMany_17 : decode cX5_howMany 17 = .ok (.baload, 1) := by decide +kernel
theorem dX5_howMany_18 : decode cX5_howMany 18 = .ok (.iload_n 1, 1) := by decide +kernel
theorem dX5_howMany_19 : decode cX5_howMany 19 = .ok (.if_icmp .ne 6, 3) := by decide +kernel
theorem dX5_howMany_22 : decode cX5_howMany 22 = .ok (.iinc 2 1, 3) := by decide +kernel
theorem dX5_howMany_25 : decode cX5_howMany 25 = .ok (.iinc 3 1, 3) := by decide +kernel
theorem dX5_howMany_28 : decode cX5_howMany 28 = .ok (.goto (-24), 3) := by decide +kernel
theorem dX5_howMany_31 : decode cX5_howMany 31 = .ok (.iload_n 2, 1) := by decide +kernel
theorem dX5_howMany_32 : decode cX5_howMany 32 = .ok (.ireturn, 1) := by decide +kernel
theorem dX5_copyUpTo_0 : decode cX5_copyUpTo 0 = .ok (.aload_n 0, 1) := by decide +kernel
theorem dX5_copyUpTo_1 : decode cX5_copyUpTo 1 = .ok (.iconst 0, 1) := by decide +kernel
theorem dX5_copyUpTo_2 : decode cX5_copyUpTo 2 = .ok (.putfield 22, 3) := by decide +kernel
theorem dX5_copyUpTo_5 : decode cX5_copyUpTo 5 = .ok (.iconst 0, 1) := by decide +kernel
theorem dX5_copyUpTo_6 : decode cX5_copyUpTo 6 = .ok (.istore_n 3, 1) := by decide +kernel
theorem dX5_copyUpTo_7 : decode cX5_copyUpTo 7 = .ok (.iload_n 3, 1) := by decide +kernel
theorem dX5_copyUpTo_8 : decode cX5_copyUpTo 8 = .ok (.aload_n 1, 1) := by decide +kernel
theorem dX5_copyUpTo_9 : decode cX5_copyUpTo 9 = .ok (.getfield 22, 3) := by decide +kernel
theorem dX5_copyUpTo_12 : decode cX5_copyUpTo 12 = .ok (.if_icmp .ge 74, 3) := by decide +kernel
theorem dX5_copyUpTo_15 : decode cX5_copyUpTo 15 = .ok (.aload_n 1, 1) := by decide +kernel
theorem dX5_copyUpTo_16 : decode cX5_copyUpTo 16 = .ok (.getfield 15, 3) := by decide +kernel
theorem dX5_copyUpTo_19 : decode cX5_copyUpTo 19 = .ok (.iload_n 3, 1) := by decide +kernel
theorem dX5_copyUpTo_20 : decode cX5_copyUpTo 20 = .ok (.iaload, 1) := by decide +kernel
theorem dX5_copyUpTo_21 : decode cX5_copyUpTo 21 = .ok (.iload_n 2, 1) := by decide +kernel
theorem dX5_copyUpTo_22 : decode cX5_copyUpTo 22 = .ok (.if_icmp .gt 58, 3) := by decide +kernel
theorem dX5_copyUpTo_25 : decode cX5_copyUpTo 25 = .ok (.aload_n 0, 1) := by decide +kernel
theorem dX5_copyUpTo_26 : decode cX5_copyUpTo 26 = .ok (.getfield 9, 3) := by decide +kernel
theorem dX5_copyUpTo_29 : decode cX5_copyUpTo 29 = .ok (.aload_n 0, 1) := by decide +kernel
theorem dX5_copyUpTo_30 : decode cX5_copyUpTo 30 = .ok (.getfield 22, 3) := by decide +kernel
theorem dX5_copyUpTo_33 : decode cX5_copyUpTo 33 = .ok (.aload_n 1, 1) := by decide +kernel
theorem dX5_copyUpTo_34 : decode cX5_copyUpTo 34 = .ok (.getfield 9, 3) := by decide +kernel
theorem dX5_copyUpTo_37 : decode cX5_copyUpTo 37 = .ok (.iload_n 3, 1) := by decide +kernel
theorem dX5_copyUpTo_38 : decode cX5_copyUpTo 38 = .ok (.iaload, 1) := by decide +kernel
theorem dX5_copyUpTo_39 : decode cX5_copyUpTo 39 = .ok (.iastore, 1) := by decide +kernel
theorem dX5_copyUpTo_40 : decode cX5_copyUpTo 40 = .ok (.aload_n 0, 1) := by decide +kernel
theorem dX5_copyUpTo_41 : decode cX5_copyUpTo 41 = .ok (.getfield 15, 3) := by decide +kernel
theorem dX5_copyUpTo_44 : decode cX5_copyUpTo 44 = .ok (.aload_n 0, 1) := by decide +kernel
theorem dX5_copyUpTo_45 : decode cX5_copyUpTo 45 = .ok (.getfield 22, 3) := by decide +kernel
theorem dX5_copyUpTo_48 : decode cX5_copyUpTo 48 = .ok (.aload_n 1, 1) := by decide +kernel
theorem dX5_copyUpTo_49 : decode cX5_copyUpTo 49 = .ok (.getfield 15, 3) := by decide +kernel
theorem dX5_copyUpTo_52 : decode cX5_copyUpTo 52 = .ok (.iload_n 3, 1) := by decide +kernel
theorem dX5_copyUpTo_53 : decode cX5_copyUpTo 53 = .ok (.iaload, 1) := by decide +kernel
theorem dX5_copyUpTo_54 : decode cX5_copyUpTo 54 = .ok (.iastore, 1) := by decide +kernel
theorem dX5_copyUpTo_55 : decode cX5_copyUpTo 55 = .ok (.aload_n 0, 1) := by decide +kernel
theorem dX5_copyUpTo_56 : decode cX5_copyUpTo 56 = .ok (.getfield 18, 3) := by decide +kernel
theorem dX5_copyUpTo_59 : decode cX5_copyUpTo 59 = .ok (.aload_n 0, 1) := by decide +kernel
theorem dX5_copyUpTo_60 : decode cX5_copyUpTo 60 = .ok (.getfield 22, 3) := by decide +kernel
theorem dX5_copyUpTo_63 : decode cX5_copyUpTo 63 = .ok (.aload_n 1, 1) := by decide +kernel
theorem dX5_copyUpTo_64 : decode cX5_copyUpTo 64 = .ok (.getfield 18, 3) := by decide +kernel
theorem dX5_copyUpTo_67 : decode cX5_copyUpTo 67 = .ok (.iload_n 3, 1) := by decide +kernel
theorem dX5_copyUpTo_68 : decode cX5_copyUpTo 68 = .ok (.baload, 1) := by decide +kernel
theorem dX5_copyUpTo_69 : decode cX5_copyUpTo 69 = .ok (.bastore, 1) := by decide +kernel
theorem dX5_copyUpTo_70 : decode cX5_copyUpTo 70 = .ok (.aload_n 0, 1) := by decide +kernel
theorem dX5_copyUpTo_71 : decode cX5_copyUpTo 71 = .ok (.dup, 1) := by decide +kernel
theorem dX5_copyUpTo_72 : decode cX5_copyUpTo 72 = .ok (.getfield 22, 3) := by decide +kernel
theorem dX5_copyUpTo_75 : decode cX5_copyUpTo 75 = .ok (.iconst 1, 1) := by decide +kernel
theorem dX5_copyUpTo_76 : decode cX5_copyUpTo 76 = .ok (.iadd, 1) := by decide +kernel
theorem dX5_copyUpTo_77 : decode cX5_copyUpTo 77 = .ok (.putfield 22, 3) := by decide +kernel
theorem dX5_copyUpTo_80 : decode cX5_copyUpTo 80 = .ok (.iinc 3 1, 3) := by decide +kernel
theorem dX5_copyUpTo_83 : decode cX5_copyUpTo 83 = .ok (.goto (-76), 3) := by decide +kernel
theorem dX5_copyUpTo_86 : decode cX5_copyUpTo 86 = .ok (.return_, 1) := by decide +kernel
theorem dX6_init_0 : decode cX6_init 0 = .ok (.aload_n 0, 1) := by decide +kernel
theorem dX6_init_1 : decode cX6_init 1 = .ok (.invokespecial 3, 3) := by decide +kernel
theorem dX6_init_4 : decode cX6_init 4 = .ok (.aload_n 0, 1) := by decide +kernel
theorem dX6_init_5 : decode cX6_init 5 = .ok (.bipush 20, 2) := by decide +kernel
theorem dX6_init_7 : decode cX6_init 7 = .ok (.newarray .int, 2) := by decide +kernel
theorem dX6_init_9 : decode cX6_init 9 = .ok (.putfield 11, 3) := by decide +kernel
theorem dX6_init_12 : decode cX6_init 12 = .ok (.aload_n 0, 1) := by decide +kernel
theorem dX6_init_13 : decode cX6_init 13 = .ok (.bipush 8, 2) := by decide +kernel
theorem dX6_init_15 : decode cX6_init 15 = .ok (.newarray .int, 2) := by decide +kernel
theorem dX6_init_17 : decode cX6_init 17 = .ok (.putfield 15, 3) := by decide +kernel
theorem dX6_init_20 : decode cX6_init 20 = .ok (.return_, 1) := by decide +kernel
theorem dX6_sumOfEntry_0 : decode cX6_sumOfEntry 0 = .ok (.aload_n 0, 1) := by decide +kernel
theorem dX6_sumOfEntry_1 : decode cX6_sumOfEntry 1 = .ok (.getfield 11, 3) := by decide +kernel
theorem dX6_sumOfEntry_4 : decode cX6_sumOfEntry 4 = .ok (.iconst 0, 1) := by decide +kernel
theorem dX6_sumOfEntry_5 : decode cX6_sumOfEntry 5 = .ok (.iconst 1, 1) := by decide +kernel
theorem dX6_sumOfEntry_6 : decode cX6_sumOfEntry 6 = .ok (.iastore, 1) := by decide +kernel
theorem dX6_sumOfEntry_7 : decode cX6_sumOfEntry 7 = .ok (.aload_n 0, 1) := by decide +kernel
theorem dX6_sumOfEntry_8 : decode cX6_sumOfEntry 8 = .ok (.getfield 11, 3) := by decide +kernel
theorem dX6_sumOfEntry_11 : decode cX6_sumOfEntry 11 = .ok (.iconst 1, 1) := by decide +kernel
theorem dX6_sumOfEntry_12 : decode cX6_sumOfEntry 12 = .ok (.iload_n 1, 1) := by decide +kernel
theorem dX6_sumOfEntry_13 : decode cX6_sumOfEntry 13 = .ok (.iastore, 1) := by decide +kernel
theorem dX6_sumOfEntry_14 : decode cX6_sumOfEntry 14 = .ok (.aload_n 0, 1) := by decide +kernel
theorem dX6_sumOfEntry_15 : decode cX6_sumOfEntry 15 = .ok (.getfield 11, 3) := by decide +kernel
theorem dX6_sumOfEntry_18 : decode cX6_sumOfEntry 18 = .ok (.iconst 2, 1) := by decide +kernel
theorem dX6_sumOfEntry_19 : decode cX6_sumOfEntry 19 = .ok (.lload_n 2, 1) := by decide +kernel
theorem dX6_sumOfEntry_20 : decode cX6_sumOfEntry 20 = .ok (.bipush 32, 2) := by decide +kernel
theorem dX6_sumOfEntry_22 : decode cX6_sumOfEntry 22 = .ok (.lushr, 1) := by decide +kernel
theorem dX6_sumOfEntry_23 : decode cX6_sumOfEntry 23 = .ok (.l2i, 1) := by decide +kernel
theorem dX6_sumOfEntry_24 : decode cX6_sumOfEntry 24 = .ok (.iastore, 1) := by decide +kernel
theorem dX6_sumOfEntry_25 : decode cX6_sumOfEntry 25 = .ok (.aload_n 0, 1) := by decide +kernel
theorem dX6_sumOfEntry_26 : decode cX6_sumOfEntry 26 = .ok (.getfield 11, 3) := by decide +kernel
theorem dX6_sumOfEntry_29 : decode cX6_sumOfEntry 29 = .ok (.iconst 3, 1) := by decide +kernel
theorem dX6_sumOfEntry_30 : decode cX6_sumOfEntry 30 = .ok (.lload_n 2, 1) := by decide +kernel
theorem dX6_sumOfEntry_31 : decode cX6_sumOfEntry 31 = .ok (.l2i, 1) := by decide +kernel
theorem dX6_sumOfEntry_32 : decode cX6_sumOfEntry 32 = .ok (.iastore, 1) := by decide +kernel
theorem dX6_sumOfEntry_33 : decode cX6_sumOfEntry 33 = .ok (.aload_n 0, 1) := by decide +kernel
theorem dX6_sumOfEntry_34 : decode cX6_sumOfEntry 34 = .ok (.iconst 4, 1) := by decide +kernel
theorem dX6_sumOfEntry_35 : decode cX6_sumOfEntry 35 = .ok (.aload 4, 2) := by decide +kernel
theorem dX6_sumOfEntry_37 : decode cX6_sumOfEntry 37 = .ok (.iload 5, 2) := by decide +kernel
theorem dX6_sumOfEntry_39 : decode cX6_sumOfEntry 39 = .ok (.invokevirtual 18, 3) := by decide +kernel
theorem dX6_sumOfEntry_42 : decode cX6_sumOfEntry 42 = .ok (.return_, 1) := by decide +kernel
theorem dX6_join_0 : decode cX6_join 0 = .ok (.aload_n 0, 1) := by decide +kernel
theorem dX6_join_1 : decode cX6_join 1 = .ok (.getfield 11, 3) := by decide +kernel
theorem dX6_join_4 : decode cX6_join 4 = .ok (.iconst 0, 1) := by decide +kernel
theorem dX6_join_5 : decode cX6_join 5 = .ok (.iconst 2, 1) := by decide +kernel
theorem dX6_join_6 : decode cX6_join 6 = .ok (.iastore, 1) := by decide +kernel
theorem dX6_join_7 : decode cX6_join 7 = .ok (.aload_n 1, 1) := by decide +kernel
theorem dX6_join_8 : decode cX6_join 8 = .ok (.iload_n 2, 1) := by decide +kernel
theorem dX6_join_9 : decode cX6_join 9 = .ok (.bipush 8, 2) := by decide +kernel
theorem dX6_join_11 : decode cX6_join 11 = .ok (.imul, 1) := by decide +kernel
theorem dX6_join_12 : decode cX6_join 12 = .ok (.aload_n 0, 1) := by decide +kernel
theorem dX6_join_13 : decode cX6_join 13 = .ok (.getfield 11, 3) := by decide +kernel
theorem dX6_join_16 : decode cX6_join 16 = .ok (.iconst 1, 1) := by decide +kernel
theorem dX6_join_17 : decode cX6_join 17 = .ok (.bipush 8, 2) := by decide +kernel
theorem dX6_join_19 : decode cX6_join 19 = .ok (.invokestatic 22, 3) := by decide +kernel
theorem dX6_join_22 : decode cX6_join 22 = .ok (.aload_n 3, 1) := by decide +kernel
theorem dX6_join_23 : decode cX6_join 23 = .ok (.iload 4, 2) := by decide +kernel
theorem dX6_join_25 : decode cX6_join 25 = .ok (.bipush 8, 2) := by decide +kernel
theorem dX6_join_27 : decode cX6_join 27 = .ok (.imul, 1) := by decide +kernel
theorem dX6_join_28 : decode cX6_join 28 = .ok (.aload_n 0, 1) := by decide +kernel
theorem dX6_join_29 : decode cX6_join 29 = .ok (.getfield 11, 3) := by decide +kernel
theorem dX6_join_32 : decode cX6_join 32 = .ok (.bipush 9, 2) := by decide +kernel
theorem dX6_join_34 : decode cX6_join 34 = .ok (.bipush 8, 2) := by decide +kernel
theorem dX6_join_36 : decode cX6_join 36 = .ok (.invokestatic 22, 3) := by decide +kernel
theorem dX6_join_39 : decode cX6_join 39 = .ok (.aload_n 0, 1) := by decide +kernel
theorem dX6_join_40 : decode cX6_join 40 = .ok (.bipush 17, 2) := by decide +kernel
theorem dX6_join_42 : decode cX6_join 42 = .ok (.aload 5, 2) := by decide +kernel
theorem dX6_join_44 : decode cX6_join 44 = .ok (.iload 6, 2) := by decide +kernel
theorem dX6_join_46 : decode cX6_join 46 = .ok (.invokevirtual 18, 3) := by decide +kernel
theorem dX6_join_49 : decode cX6_join 49 = .ok (.return_, 1) := by decide +kernel
theorem dX6_wayOf_0 : decode cX6_wayOf 0 = .ok (.aload_n 0, 1) := by decide +kernel
theorem dX6_wayOf_1 : decode cX6_wayOf 1 = .ok (.getfield 11, 3) := by decide +kernel
theorem dX6_wayOf_4 : decode cX6_wayOf 4 = .ok (.iconst 0, 1) := by decide +kernel
theorem dX6_wayOf_5 : decode cX6_wayOf 5 = .ok (.iconst 4, 1) := by decide +kernel
theorem dX6_wayOf_6 : decode cX6_wayOf 6 = .ok (.iastore, 1) := by decide +kernel
theorem dX6_wayOf_7 : decode cX6_wayOf 7 = .ok (.aload_n 0, 1) := by decide +kernel
theorem dX6_wayOf_8 : decode cX6_wayOf 8 = .ok (.getfield 11, 3) := by decide +kernel
theorem dX6_wayOf_11 : decode cX6_wayOf 11 = .ok (.iconst 1, 1) := by decide +kernel
theorem dX6_wayOf_12 : decode cX6_wayOf 12 = .ok (.iload_n 1, 1) := by decide +kernel
theorem dX6_wayOf_13 : decode cX6_wayOf 13 = .ok (.iastore, 1) := by decide +kernel
theorem dX6_wayOf_14 : decode cX6_wayOf 14 = .ok (.aload_n 0, 1) := by decide +kernel
theorem dX6_wayOf_15 : decode cX6_wayOf 15 = .ok (.iconst 2, 1) := by decide +kernel
theorem dX6_wayOf_16 : decode cX6_wayOf 16 = .ok (.aload_n 2, 1) := by decide +kernel
theorem dX6_wayOf_17 : decode cX6_wayOf 17 = .ok (.iload_n 3, 1) := by decide +kernel
theorem dX6_wayOf_18 : decode cX6_wayOf 18 = .ok (.invokevirtual 18, 3) := by decide +kernel
theorem dX6_wayOf_21 : decode cX6_wayOf 21 = .ok (.return_, 1) := by decide +kernel
theorem dX6_sumOfLeaf_0 : decode cX6_sumOfLeaf 0 = .ok (.aload_n 0, 1) := by decide +kernel
theorem dX6_sumOfLeaf_1 : decode cX6_sumOfLeaf 1 = .ok (.getfield 11, 3) := by decide +kernel
theorem dX6_sumOfLeaf_4 : decode cX6_sumOfLeaf 4 = .ok (.iconst 0, 1) := by decide +kernel
theorem dX6_sumOfLeaf_5 : decode cX6_sumOfLeaf 5 = .ok (.iconst 5, 1) := by decide +kernel
theorem dX6_sumOfLeaf_6 : decode cX6_sumOfLeaf 6 = .ok (.iastore, 1) := by decide +kernel
theorem dX6_sumOfLeaf_7 : decode cX6_sumOfLeaf 7 = .ok (.aload_n 0, 1) := by decide +kernel
theorem dX6_sumOfLeaf_8 : decode cX6_sumOfLeaf 8 = .ok (.getfield 11, 3) := by decide +kernel
theorem dX6_sumOfLeaf_11 : decode cX6_sumOfLeaf 11 = .ok (.iconst 1, 1) := by decide +kernel
theorem dX6_sumOfLeaf_12 : decode cX6_sumOfLeaf 12 = .ok (.iload_n 1, 1) := by decide +kernel
theorem dX6_sumOfLeaf_13 : decode cX6_sumOfLeaf 13 = .ok (.iastore, 1) := by decide +kernel
theorem dX6_sumOfLeaf_14 : decode cX6_sumOfLeaf 14 = .ok (.aload_n 0, 1) := by decide +kernel
theorem dX6_sumOfLeaf_15 : decode cX6_sumOfLeaf 15 = .ok (.getfield 11, 3) := by decide +kernel
theorem dX6_sumOfLeaf_18 : decode cX6_sumOfLeaf 18 = .ok (.iconst 2, 1) := by decide +kernel
theorem dX6_sumOfLeaf_19 : decode cX6_sumOfLeaf 19 = .ok (.iload_n 2, 1) := by decide +kernel
theorem dX6_sumOfLeaf_20 : decode cX6_sumOfLeaf 20 = .ok (.iastore, 1) := by decide +kernel
theorem dX6_sumOfLeaf_21 : decode cX6_sumOfLeaf 21 = .ok (.aload_n 0, 1) := by decide +kernel
theorem dX6_sumOfLeaf_22 : decode cX6_sumOfLeaf 22 = .ok (.iconst 3, 1) := by decide +kernel
theorem dX6_sumOfLeaf_23 : decode cX6_sumOfLeaf 23 = .ok (.aload_n 3, 1) := by decide +kernel
theorem dX6_sumOfLeaf_24 : decode cX6_sumOfLeaf 24 = .ok (.iload 4, 2) := by decide +kernel
theorem dX6_sumOfLeaf_26 : decode cX6_sumOfLeaf 26 = .ok (.invokevirtual 18, 3) := by decide +kernel
theorem dX6_sumOfLeaf_29 : decode cX6_sumOfLeaf 29 = .ok (.return_, 1) := by decide +kernel
theorem dX6_markOf_0 : decode cX6_markOf 0 = .ok (.aload_n 0, 1) := by decide +kernel
theorem dX6_markOf_1 : decode cX6_markOf 1 = .ok (.getfield 11, 3) := by decide +kernel
theorem dX6_markOf_4 : decode cX6_markOf 4 = .ok (.iconst 0, 1) := by decide +kernel
theorem dX6_markOf_5 : decode cX6_markOf 5 = .ok (.bipush 6, 2) := by decide +kernel
theorem dX6_markOf_7 : decode cX6_markOf 7 = .ok (.iastore, 1) := by decide +kernel
theorem dX6_markOf_8 : decode cX6_markOf 8 = .ok (.aload_n 0, 1) := by decide +kernel
theorem dX6_markOf_9 : decode cX6_markOf 9 = .ok (.getfield 11, 3) := by decide +kernel
theorem dX6_markOf_12 : decode cX6_markOf 12 = .ok (.iconst 1, 1) := by decide +kernel
theorem dX6_markOf_13 : decode cX6_markOf 13 = .ok (.aload_n 1, 1) := by decide +kernel
theorem dX6_markOf_14 : decode cX6_markOf 14 = .ok (.getfield 28, 3) := by decide +kernel
theorem dX6_markOf_17 : decode cX6_markOf 17 = .ok (.iastore, 1) := by decide +kernel
theorem dX6_markOf_18 : decode cX6_markOf 18 = .ok (.aload_n 0, 1) := by decide +kernel
theorem dX6_markOf_19 : decode cX6_markOf 19 = .ok (.getfield 11, 3) := by decide +kernel
theorem dX6_markOf_22 : decode cX6_markOf 22 = .ok (.iconst 2, 1) := by decide +kernel
theorem dX6_markOf_23 : decode cX6_markOf 23 = .ok (.ldc 34, 2) := by decide +kernel
theorem dX6_markOf_25 : decode cX6_markOf 25 = .ok (.aload_n 1, 1) := by decide +kernel
theorem dX6_markOf_26 : decode cX6_markOf 26 = .ok (.getfield 28, 3) := by decide +kernel
theorem dX6_markOf_29 : decode cX6_markOf 29 = .ok (.imul, 1) := by decide +kernel
theorem dX6_markOf_30 : decode cX6_markOf 30 = .ok (.bipush 77, 2) := by decide +kernel
theorem dX6_markOf_32 : decode cX6_markOf 32 = .ok (.iadd, 1) := by decide +kernel
theorem dX6_markOf_33 : decode cX6_markOf 33 = .ok (.iastore, 1) := by decide +kernel
theorem dX6_markOf_34 : decode cX6_markOf 34 = .ok (.aload_n 0, 1) := by decide +kernel
theorem dX6_markOf_35 : decode cX6_markOf 35 = .ok (.getfield 11, 3) := by decide +kernel
theorem dX6_markOf_38 : decode cX6_markOf 38 = .ok (.iconst 3, 1) := by decide +kernel
theorem dX6_markOf_39 : decode cX6_markOf 39 = .ok (.aload_n 1, 1) := by decide +kernel
theorem dX6_markOf_40 : decode cX6_markOf 40 = .ok (.getfield 35, 3) := by decide +kernel
theorem dX6_markOf_43 : decode cX6_markOf 43 = .ok (.iastore, 1) := by decide +kernel
theorem dX6_markOf_44 : decode cX6_markOf 44 = .ok (.aload_n 1, 1) := by decide +kernel
theorem dX6_markOf_45 : decode cX6_markOf 45 = .ok (.getfield 38, 3) := by decide +kernel
theorem dX6_markOf_48 : decode cX6_markOf 48 = .ok (.iconst 0, 1) := by decide +kernel
theorem dX6_markOf_49 : decode cX6_markOf 49 = .ok (.aload_n 0, 1) := by decide +kernel
theorem dX6_markOf_50 : decode cX6_markOf 50 = .ok (.getfield 11, 3) := by decide +kernel
theorem dX6_markOf_53 : decode cX6_markOf 53 = .ok (.iconst 4, 1) := by decide +kernel
theorem dX6_markOf_54 : decode cX6_markOf 54 = .ok (.bipush 8, 2) := by decide +kernel
theorem dX6_markOf_56 : decode cX6_markOf 56 = .ok (.invokestatic 22, 3) := by decide +kernel
theorem dX6_markOf_59 : decode cX6_markOf 59 = .ok (.aload_n 1, 1) := by decide +kernel
theorem dX6_markOf_60 : decode cX6_markOf 60 = .ok (.getfield 41, 3) := by decide +kernel
theorem dX6_markOf_63 : decode cX6_markOf 63 = .ok (.iconst 0, 1) := by decide +kernel
theorem dX6_markOf_64 : decode cX6_markOf 64 = .ok (.aload_n 0, 1) := by decide +kernel
theorem dX6_markOf_65 : decode cX6_markOf 65 = .ok (.getfield 11, 3) := by decide +kernel
theorem dX6_markOf_68 : decode cX6_markOf 68 = .ok (.bipush 12, 2) := by decide +kernel
theorem dX6_markOf_70 : decode cX6_markOf 70 = .ok (.bipush 8, 2) := by decide +kernel
theorem dX6_markOf_72 : decode cX6_markOf 72 = .ok (.invokestatic 22, 3) := by decide +kernel
theorem dX6_markOf_75 : decode cX6_markOf 75 = .ok (.aload_n 0, 1) := by decide +kernel
theorem dX6_markOf_76 : decode cX6_markOf 76 = .ok (.bipush 20, 2) := by decide +kernel
theorem dX6_markOf_78 : decode cX6_markOf 78 = .ok (.aload_n 2, 1) := by decide +kernel
theorem dX6_markOf_79 : decode cX6_markOf 79 = .ok (.iconst 0, 1) := by decide +kernel
theorem dX6_markOf_80 : decode cX6_markOf 80 = .ok (.invokevirtual 18, 3) := by decide +kernel
theorem dX6_markOf_83 : decode cX6_markOf 83 = .ok (.return_, 1) := by decide +kernel
theorem dX6_mix_0 : decode cX6_mix 0 = .ok (.iconst 0, 1) := by decide +kernel
theorem dX6_mix_1 : decode cX6_mix 1 = .ok (.istore 4, 2) := by decide +kernel
theorem dX6_mix_3 : decode cX6_mix 3 = .ok (.iload 4, 2) := by decide +kernel
theorem dX6_mix_5 : decode cX6_mix 5 = .ok (.bipush 8, 2) := by decide +kernel
theorem dX6_mix_7 : decode cX6_mix 7 = .ok (.if_icmp .ge 23, 3) := by decide +kernel
theorem dX6_mix_10 : decode cX6_mix 10 = .ok (.aload_n 0, 1) := by decide +kernel
theorem dX6_mix_11 : decode cX6_mix 11 = .ok (.getfield 15, 3) := by decide +kernel
theorem dX6_mix_14 : decode cX6_mix 14 = .ok (.iload 4, 2) := by decide +kernel
theorem dX6_mix_16 : decode cX6_mix 16 = .ok (.iload 4, 2) := by decide +kernel
theorem dX6_mix_18 : decode cX6_mix 18 = .ok (.iconst 1, 1) := by decide +kernel
theorem dX6_mix_19 : decode cX6_mix 19 = .ok (.iadd, 1) := by decide +kernel
theorem dX6_mix_20 : decode cX6_mix 20 = .ok (.ldc 44, 2) := by decide +kernel
theorem dX6_mix_22 : decode cX6_mix 22 = .ok (.imul, 1) := by decide +kernel
theorem dX6_mix_23 : decode cX6_mix 23 = .ok (.iastore, 1) := by decide +kernel
theorem dX6_mix_24 : decode cX6_mix 24 = .ok (.iinc 4 1, 3) := by decide +kernel
theorem dX6_mix_27 : decode cX6_mix 27 = .ok (.goto (-24), 3) := by decide +kernel
theorem dX6_mix_30 : decode cX6_mix 30 = .ok (.iconst 0, 1) := by decide +kernel
theorem dX6_mix_31 : decode cX6_mix 31 = .ok (.istore 4, 2) := by decide +kernel
theorem dX6_mix_33 : decode cX6_mix 33 = .ok (.iload 4, 2) := by decide +kernel
theorem dX6_mix_35 : decode cX6_mix 35 = .ok (.iload_n 1, 1) := by decide +kernel
theorem dX6_mix_36 : decode cX6_mix 36 = .ok (.if_icmp .ge 51, 3) := by decide +kernel
theorem dX6_mix_39 : decode cX6_mix 39 = .ok (.aload_n 0, 1) := by decide +kernel
theorem dX6_mix_40 : decode cX6_mix 40 = .ok (.getfield 15, 3) := by decide +kernel
theorem dX6_mix_43 : decode cX6_mix 43 = .ok (.iload 4, 2) := by decide +kernel
theorem dX6_mix_45 : decode cX6_mix 45 = .ok (.bipush 8, 2) := by decide +kernel
theorem dX6_mix_47 : decode cX6_mix 47 = .ok (.irem, 1) := by decide +kernel
theorem dX6_mix_48 : decode cX6_mix 48 = .ok (.dup2, 1) := by decide +kernel
theorem dX6_mix_49 : decode cX6_mix 49 = .ok (.iaload, 1) := by decide +kernel
theorem dX6_mix_50 : decode cX6_mix 50 = .ok (.aload_n 0, 1) := by decide +kernel
theorem dX6_mix_51 : decode cX6_mix 51 = .ok (.getfield 11, 3) := by decide +kernel
theorem dX6_mix_54 : decode cX6_mix 54 = .ok (.iload 4, 2) := by decide +kernel
theorem dX6_mix_56 : decode cX6_mix 56 = .ok (.iaload, 1) := by decide +kernel
theorem dX6_mix_57 : decode cX6_mix 57 = .ok (.ixor, 1) := by decide +kernel
theorem dX6_mix_58 : decode cX6_mix 58 = .ok (.iastore, 1) := by decide +kernel
theorem dX6_mix_59 : decode cX6_mix 59 = .ok (.iload 4, 2) := by decide +kernel
theorem dX6_mix_61 : decode cX6_mix 61 = .ok (.bipush 8, 2) := by decide +kernel
theorem dX6_mix_63 : decode cX6_mix 63 = .ok (.irem, 1) := by decide +kernel
theorem dX6_mix_64 : decode cX6_mix 64 = .ok (.bipush 7, 2) := by decide +kernel
theorem dX6_mix_66 : decode cX6_mix 66 = .ok (.if_icmp .eq 11, 3) := by decide +kernel
theorem dX6_mix_69 : decode cX6_mix 69 = .ok (.iload 4, 2) := by decide +kernel
theorem dX6_mix_71 : decode cX6_mix 71 = .ok (.iload_n 1, 1) := by decide +kernel
theorem dX6_mix_72 : decode cX6_mix 72 = .ok (.iconst 1, 1) := by decide +kernel
theorem dX6_mix_73 : decode cX6_mix 73 = .ok (.isub, 1) := by decide +kernel
theorem dX6_mix_74 : decode cX6_mix 74 = .ok (.if_icmp .ne 7, 3) := by decide +kernel
theorem dX6_mix_77 : decode cX6_mix 77 = .ok (.aload_n 0, 1) := by decide +kernel
theorem dX6_mix_78 : decode cX6_mix 78 = .ok (.invokevirtual 45, 3) := by decide +kernel
theorem dX6_mix_81 : decode cX6_mix 81 = .ok (.iinc 4 1, 3) := by decide +kernel
theorem dX6_mix_84 : decode cX6_mix 84 = .ok (.goto (-51), 3) := by decide +kernel
theorem dX6_mix_87 : decode cX6_mix 87 = .ok (.aload_n 0, 1) := by decide +kernel
theorem dX6_mix_88 : decode cX6_mix 88 = .ok (.getfield 15, 3) := by decide +kernel
theorem dX6_mix_91 : decode cX6_mix 91 = .ok (.iconst 0, 1) := by decide +kernel
theorem dX6_mix_92 : decode cX6_mix 92 = .ok (.dup2, 1) := by decide +kernel
theorem dX6_mix_93 : decode cX6_mix 93 = .ok (.iaload, 1) := by decide +kernel
theorem dX6_mix_94 : decode cX6_mix 94 = .ok (.iload_n 1, 1) := by decide +kernel
theorem dX6_mix_95 : decode cX6_mix 95 = .ok (.ixor, 1) := by decide +kernel
theorem dX6_mix_96 : decode cX6_mix 96 = .ok (.iastore, 1) := by decide +kernel
theorem dX6_mix_97 : decode cX6_mix 97 = .ok (.aload_n 0, 1) := by decide +kernel
theorem dX6_mix_98 : decode cX6_mix 98 = .ok (.invokevirtual 45, 3) := by decide +kernel
theorem dX6_mix_101 : decode cX6_mix 101 = .ok (.aload_n 0, 1) := by decide +kernel
theorem dX6_mix_102 : decode cX6_mix 102 = .ok (.getfield 15, 3) := by decide +kernel
theorem dX6_mix_105 : decode cX6_mix 105 = .ok (.iconst 0, 1) := by decide +kernel
theorem dX6_mix_106 : decode cX6_mix 106 = .ok (.aload_n 2, 1) := by decide +kernel
theorem dX6_mix_107 : decode cX6_mix 107 = .ok (.iload_n 3, 1) := by decide +kernel
theorem dX6_mix_108 : decode cX6_mix 108 = .ok (.bipush 8, 2) := by decide +kernel
theorem dX6_mix_110 : decode cX6_mix 110 = .ok (.imul, 1) := by decide +kernel
theorem dX6_mix_111 : decode cX6_mix 111 = .ok (.bipush 8, 2) := by decide +kernel
theorem dX6_mix_113 : decode cX6_mix 113 = .ok (.invokestatic 22, 3) := by decide +kernel
theorem dX6_mix_116 : decode cX6_mix 116 = .ok (.return_, 1) := by decide +kernel
theorem dX6_turn_0 : decode cX6_turn 0 = .ok (.aload_n 0, 1) := by decide +kernel
theorem dX6_turn_1 : decode cX6_turn 1 = .ok (.getfield 15, 3) := by decide +kernel
theorem dX6_turn_4 : decode cX6_turn 4 = .ok (.iconst 0, 1) := by decide +kernel
theorem dX6_turn_5 : decode cX6_turn 5 = .ok (.iaload, 1) := by decide +kernel
theorem dX6_turn_6 : decode cX6_turn 6 = .ok (.istore_n 1, 1) := by decide +kernel
theorem dX6_turn_7 : decode cX6_turn 7 = .ok (.aload_n 0, 1) := by decide +kernel
theorem dX6_turn_8 : decode cX6_turn 8 = .ok (.getfield 15, 3) := by decide +kernel
theorem dX6_turn_11 : decode cX6_turn 11 = .ok (.iconst 1, 1) := by decide +kernel
theorem dX6_turn_12 : decode cX6_turn 12 = .ok (.iaload, 1) := by decide +kernel
theorem dX6_turn_13 : decode cX6_turn 13 = .ok (.istore_n 2, 1) := by decide +kernel
theorem dX6_turn_14 : decode cX6_turn 14 = .ok (.aload_n 0, 1) := by decide +kernel
theorem dX6_turn_15 : decode cX6_turn 15 = .ok (.getfield 15, 3) := by decide +kernel
theorem dX6_turn_18 : decode cX6_turn 18 = .ok (.iconst 2, 1) := by decide +kernel
theorem dX6_turn_19 : decode cX6_turn 19 = .ok (.iaload, 1) := by decide +kernel
theorem dX6_turn_20 : decode cX6_turn 20 = .ok (.istore_n 3, 1) := by decide +kernel
theorem dX6_turn_21 : decode cX6_turn 21 = .ok (.aload_n 0, 1) := by decide +kernel
theorem dX6_turn_22 : decode cX6_turn 22 = .ok (.getfield 15, 3) := by decide +kernel
theorem dX6_turn_25 : decode cX6_turn 25 = .ok (.iconst 3, 1) := by decide +kernel
theorem dX6_turn_26 : decode cX6_turn 26 = .ok (.iaload, 1) := by decide +kernel
theorem dX6_turn_27 : decode cX6_turn 27 = .ok (.istore 4, 2) := by decide +kernel
theorem dX6_turn_29 : decode cX6_turn 29 = .ok (.aload_n 0, 1) := by decide +kernel
theorem dX6_turn_30 : decode cX6_turn 30 = .ok (.getfield 15, 3) := by decide +kernel
theorem dX6_turn_33 : decode cX6_turn 33 = .ok (.iconst 4, 1) := by decide +kernel
theorem dX6_turn_34 : decode cX6_turn 34 = .ok (.iaload, 1) := by decide +kernel
theorem dX6_turn_35 : decode cX6_turn 35 = .ok (.istore 5, 2) := by decide +kernel
theorem dX6_turn_37 : decode cX6_turn 37 = .ok (.aload_n 0, 1) := by decide +kernel
theorem dX6_turn_38 : decode cX6_turn 38 = .ok (.getfield 15, 3) := by decide +kernel
theorem dX6_turn_41 : decode cX6_turn 41 = .ok (.iconst 5, 1) := by decide +kernel
theorem dX6_turn_42 : decode cX6_turn 42 = .ok (.iaload, 1) := by decide +kernel
theorem dX6_turn_43 : decode cX6_turn 43 = .ok (.istore 6, 2) := by decide +kernel
theorem dX6_turn_45 : decode cX6_turn 45 = .ok (.aload_n 0, 1) := by decide +kernel
theorem dX6_turn_46 : decode cX6_turn 46 = .ok (.getfield 15, 3) := by decide +kernel
theorem dX6_turn_49 : decode cX6_turn 49 = .ok (.bipush 6, 2) := by decide +kernel
theorem dX6_turn_51 : decode cX6_turn 51 = .ok (.iaload, 1) := by decide +kernel
theorem dX6_turn_52 : decode cX6_turn 52 = .ok (.istore 7, 2) := by decide +kernel
theorem dX6_turn_54 : decode cX6_turn 54 = .ok (.aload_n 0, 1) := by decide +kernel
theorem dX6_turn_55 : decode cX6_turn 55 = .ok (.getfield 15, 3) := by decide +kernel
theorem dX6_turn_58 : decode cX6_turn 58 = .ok (.bipush 7, 2) := by decide +kernel
theorem dX6_turn_60 : decode cX6_turn 60 = .ok (.iaload, 1) := by decide +kernel
theorem dX6_turn_61 : decode cX6_turn 61 = .ok (.istore 8, 2) := by decide +kernel
theorem dX6_turn_63 : decode cX6_turn 63 = .ok (.iconst 0, 1) := by decide +kernel
theorem dX6_turn_64 : decode cX6_turn 64 = .ok (.istore 9, 2) := by decide +kernel
theorem dX6_turn_66 : decode cX6_turn 66 = .ok (.iload 9, 2) := by decide +kernel
theorem dX6_turn_68 : decode cX6_turn 68 = .ok (.bipush 6, 2) := by decide +kernel
theorem dX6_turn_70 : decode cX6_turn 70 = .ok (.if_icmp .ge 172, 3) := by decide +kernel
theorem dX6_turn_73 : decode cX6_turn 73 = .ok (.iload_n 1, 1) := by decide +kernel
theorem dX6_turn_74 : decode cX6_turn 74 = .ok (.iload_n 2, 1) := by decide +kernel
theorem dX6_turn_75 : decode cX6_turn 75 = .ok (.iadd, 1) := by decide +kernel
theorem dX6_turn_76 : decode cX6_turn 76 = .ok (.istore_n 1, 1) := by decide +kernel
theorem dX6_turn_77 : decode cX6_turn 77 = .ok (.iload_n 1, 1) := by decide +kernel
theorem dX6_turn_78 : decode cX6_turn 78 = .ok (.bipush 7, 2) := by decide +kernel
theorem dX6_turn_80 : decode cX6_turn 80 = .ok (.ishl, 1) := by decide +kernel
theorem dX6_turn_81 : decode cX6_turn 81 = .ok (.iload_n 1, 1) := by decide +kernel
theorem dX6_turn_82 : decode cX6_turn 82 = .ok (.bipush 25, 2) := by decide +kernel
theorem dX6_turn_84 : decode cX6_turn 84 = .ok (.iushr, 1) := by decide +kernel
theorem dX6_turn_85 : decode cX6_turn 85 = .ok (.ior, 1) := by decide +kernel
theorem dX6_turn_86 : decode cX6_turn 86 = .ok (.iload 4, 2) := by decide +kernel
theorem dX6_turn_88 : decode cX6_turn 88 = .ok (.ixor, 1) := by decide +kernel
theorem dX6_turn_89 : decode cX6_turn 89 = .ok (.istore_n 1, 1) := by decide +kernel
theorem dX6_turn_90 : decode cX6_turn 90 = .ok (.iload_n 2, 1) := by decide +kernel
theorem dX6_turn_91 : decode cX6_turn 91 = .ok (.iload_n 3, 1) := by decide +kernel
theorem dX6_turn_92 : decode cX6_turn 92 = .ok (.iadd, 1) := by decide +kernel
theorem dX6_turn_93 : decode cX6_turn 93 = .ok (.istore_n 2, 1) := by decide +kernel
theorem dX6_turn_94 : decode cX6_turn 94 = .ok (.iload_n 2, 1) := by decide +kernel
theorem dX6_turn_95 : decode cX6_turn 95 = .ok (.bipush 7, 2) := by decide +kernel
theorem dX6_turn_97 : decode cX6_turn 97 = .ok (.ishl, 1) := by decide +kernel
theorem dX6_turn_98 : decode cX6_turn 98 = .ok (.iload_n 2, 1) := by decide +kernel
theorem dX6_turn_99 : decode cX6_turn 99 = .ok (.bipush 25, 2) := by decide +kernel
theorem dX6_turn_101 : decode cX6_turn 101 = .ok (.iushr, 1) := by decide +kernel
theorem dX6_turn_102 : decode cX6_turn 102 = .ok (.ior, 1) := by decide +kernel
theorem dX6_turn_103 : decode cX6_turn 103 = .ok (.iload 5, 2) := by decide +kernel
theorem dX6_turn_105 : decode cX6_turn 105 = .ok (.ixor, 1) := by decide +kernel
theorem dX6_turn_106 : decode cX6_turn 106 = .ok (.istore_n 2, 1) := by decide +kernel
theorem dX6_turn_107 : decode cX6_turn 107 = .ok (.iload_n 3, 1) := by decide +kernel
theorem dX6_turn_108 : decode cX6_turn 108 = .ok (.iload 4, 2) := by decide +kernel
theorem dX6_turn_110 : decode cX6_turn 110 = .ok (.iadd, 1) := by decide +kernel
theorem dX6_turn_111 : decode cX6_turn 111 = .ok (.istore_n 3, 1) := by decide +kernel
theorem dX6_turn_112 : decode cX6_turn 112 = .ok (.iload_n 3, 1) := by decide +kernel
theorem dX6_turn_113 : decode cX6_turn 113 = .ok (.bipush 7, 2) := by decide +kernel
theorem dX6_turn_115 : decode cX6_turn 115 = .ok (.ishl, 1) := by decide +kernel
theorem dX6_turn_116 : decode cX6_turn 116 = .ok (.iload_n 3, 1) := by decide +kernel
theorem dX6_turn_117 : decode cX6_turn 117 = .ok (.bipush 25, 2) := by decide +kernel
theorem dX6_turn_119 : decode cX6_turn 119 = .ok (.iushr, 1) := by decide +kernel
theorem dX6_turn_120 : decode cX6_turn 120 = .ok (.ior, 1) := by decide +kernel
theorem dX6_turn_121 : decode cX6_turn 121 = .ok (.iload 6, 2) := by decide +kernel
theorem dX6_turn_123 : decode cX6_turn 123 = .ok (.ixor, 1) := by decide +kernel
theorem dX6_turn_124 : decode cX6_turn 124 = .ok (.istore_n 3, 1) := by decide +kernel
theorem dX6_turn_125 : decode cX6_turn 125 = .ok (.iload 4, 2) := by decide +kernel
theorem dX6_turn_127 : decode cX6_turn 127 = .ok (.iload 5, 2) := by decide +kernel
theorem dX6_turn_129 : decode cX6_turn 129 = .ok (.iadd, 1) := by decide +kernel
theorem dX6_turn_130 : decode cX6_turn 130 = .ok (.istore 4, 2) := by decide +kernel
theorem dX6_turn_132 : decode cX6_turn 132 = .ok (.iload 4, 2) := by decide +kernel
theorem dX6_turn_134 : decode cX6_turn 134 = .ok (.bipush 7, 2) := by decide +kernel
theorem dX6_turn_136 : decode cX6_turn 136 = .ok (.ishl, 1) := by decide +kernel
theorem dX6_turn_137 : decode cX6_turn 137 = .ok (.iload 4, 2) := by decide +kernel
theorem dX6_turn_139 : decode cX6_turn 139 = .ok (.bipush 25, 2) := by decide +kernel
theorem dX6_turn_141 : decode cX6_turn 141 = .ok (.iushr, 1) := by decide +kernel
theorem dX6_turn_142 : decode cX6_turn 142 = .ok (.ior, 1) := by decide +kernel
theorem dX6_turn_143 : decode cX6_turn 143 = .ok (.iload 7, 2) := by decide +kernel
theorem dX6_turn_145 : decode cX6_turn 145 = .ok (.ixor, 1) := by decide +kernel
theorem dX6_turn_146 : decode cX6_turn 146 = .ok (.istore 4, 2) := by decide +kernel
theorem dX6_turn_148 : decode cX6_turn 148 = .ok (.iload 5, 2) := by decide +kernel
theorem dX6_turn_150 : decode cX6_turn 150 = .ok (.iload 6, 2) := by decide +kernel
theorem dX6_turn_152 : decode cX6_turn 152 = .ok (.iadd, 1) := by decide +kernel
theorem dX6_turn_153 : decode cX6_turn 153 = .ok (.istore 5, 2) := by decide +kernel
theorem dX6_turn_155 : decode cX6_turn 155 = .ok (.iload 5, 2) := by decide +kernel
theorem dX6_turn_157 : decode cX6_turn 157 = .ok (.bipush 7, 2) := by decide +kernel
theorem dX6_turn_159 : decode cX6_turn 159 = .ok (.ishl, 1) := by decide +kernel
theorem dX6_turn_160 : decode cX6_turn 160 = .ok (.iload 5, 2) := by decide +kernel
theorem dX6_turn_162 : decode cX6_turn 162 = .ok (.bipush 25, 2) := by decide +kernel
theorem dX6_turn_164 : decode cX6_turn 164 = .ok (.iushr, 1) := by decide +kernel
theorem dX6_turn_165 : decode cX6_turn 165 = .ok (.ior, 1) := by decide +kernel
theorem dX6_turn_166 : decode cX6_turn 166 = .ok (.iload 8, 2) := by decide +kernel
theorem dX6_turn_168 : decode cX6_turn 168 = .ok (.ixor, 1) := by decide +kernel
theorem dX6_turn_169 : decode cX6_turn 169 = .ok (.istore 5, 2) := by decide +kernel
theorem dX6_turn_171 : decode cX6_turn 171 = .ok (.iload 6, 2) := by decide +kernel
theorem dX6_turn_173 : decode cX6_turn 173 = .ok (.iload 7, 2) := by decide +kernel
theorem dX6_turn_175 : decode cX6_turn 175 = .ok (.iadd, 1) := by decide +kernel
theorem dX6_turn_176 : decode cX6_turn 176 = .ok (.istore 6, 2) := by decide +kernel
theorem dX6_turn_178 : decode cX6_turn 178 = .ok (.iload 6, 2) := by decide +kernel
theorem dX6_turn_180 : decode cX6_turn 180 = .ok (.bipush 7, 2) := by decide +kernel
theorem dX6_turn_182 : decode cX6_turn 182 = .ok (.ishl, 1) := by decide +kernel
theorem dX6_turn_183 : decode cX6_turn 183 = .ok (.iload 6, 2) := by decide +kernel
theorem dX6_turn_185 : decode cX6_turn 185 = .ok (.bipush 25, 2) := by decide +kernel
theorem dX6_turn_187 : decode cX6_turn 187 = .ok (.iushr, 1) := by decide +kernel
theorem dX6_turn_188 : decode cX6_turn 188 = .ok (.ior, 1) := by decide +kernel
theorem dX6_turn_189 : decode cX6_turn 189 = .ok (.iload_n 1, 1) := by decide +kernel
theorem dX6_turn_190 : decode cX6_turn 190 = .ok (.ixor, 1) := by decide +kernel
theorem dX6_turn_191 : decode cX6_turn 191 = .ok (.istore 6, 2) := by decide +kernel
theorem dX6_turn_193 : decode cX6_turn 193 = .ok (.iload 7, 2) := by decide +kernel
theorem dX6_turn_195 : decode cX6_turn 195 = .ok (.iload 8, 2) := by decide +kernel
theorem dX6_turn_197 : decode cX6_turn 197 = .ok (.iadd, 1) := by decide +kernel
theorem dX6_turn_198 : decode cX6_turn 198 = .ok (.istore 7, 2) := by decide +kernel
theorem dX6_turn_200 : decode cX6_turn 200 = .ok (.iload 7, 2) := by decide +kernel
theorem dX6_turn_202 : decode cX6_turn 202 = .ok (.bipush 7, 2) := by decide +kernel
theorem dX6_turn_204 : decode cX6_turn 204 = .ok (.ishl, 1) := by decide +kernel
theorem dX6_turn_205 : decode cX6_turn 205 = .ok (.iload 7, 2) := by decide +kernel
theorem dX6_turn_207 : decode cX6_turn 207 = .ok (.bipush 25, 2) := by decide +kernel
theorem dX6_turn_209 : decode cX6_turn 209 = .ok (.iushr, 1) := by decide +kernel
theorem dX6_turn_210 : decode cX6_turn 210 = .ok (.ior, 1) := by decide +kernel
theorem dX6_turn_211 : decode cX6_turn 211 = .ok (.iload_n 2, 1) := by decide +kernel
theorem dX6_turn_212 : decode cX6_turn 212 = .ok (.ixor, 1) := by decide +kernel
theorem dX6_turn_213 : decode cX6_turn 213 = .ok (.istore 7, 2) := by decide +kernel
theorem dX6_turn_215 : decode cX6_turn 215 = .ok (.iload 8, 2) := by decide +kernel
theorem dX6_turn_217 : decode cX6_turn 217 = .ok (.iload_n 1, 1) := by decide +kernel
theorem dX6_turn_218 : decode cX6_turn 218 = .ok (.iadd, 1) := by decide +kernel
theorem dX6_turn_219 : decode cX6_turn 219 = .ok (.istore 8, 2) := by decide +kernel
theorem dX6_turn_221 : decode cX6_turn 221 = .ok (.iload 8, 2) := by decide +kernel
theorem dX6_turn_223 : decode cX6_turn 223 = .ok (.bipush 7, 2) := by decide +kernel
theorem dX6_turn_225 : decode cX6_turn 225 = .ok (.ishl, 1) := by decide +kernel
theorem dX6_turn_226 : decode cX6_turn 226 = .ok (.iload 8, 2) := by decide +kernel
theorem dX6_turn_228 : decode cX6_turn 228 = .ok (.bipush 25, 2) := by decide +kernel
theorem dX6_turn_230 : decode cX6_turn 230 = .ok (.iushr, 1) := by decide +kernel
theorem dX6_turn_231 : decode cX6_turn 231 = .ok (.ior, 1) := by decide +kernel
theorem dX6_turn_232 : decode cX6_turn 232 = .ok (.iload_n 3, 1) := by decide +kernel
theorem dX6_turn_233 : decode cX6_turn 233 = .ok (.ixor, 1) := by decide +kernel
theorem dX6_turn_234 : decode cX6_turn 234 = .ok (.istore 8, 2) := by decide +kernel
theorem dX6_turn_236 : decode cX6_turn 236 = .ok (.iinc 9 1, 3) := by decide +kernel
theorem dX6_turn_239 : decode cX6_turn 239 = .ok (.goto (-173), 3) := by decide +kernel
theorem dX6_turn_242 : decode cX6_turn 242 = .ok (.aload_n 0, 1) := by decide +kernel
theorem dX6_turn_243 : decode cX6_turn 243 = .ok (.getfield 15, 3) := by decide +kernel
theorem dX6_turn_246 : decode cX6_turn 246 = .ok (.iconst 0, 1) := by decide +kernel
theorem dX6_turn_247 : decode cX6_turn 247 = .ok (.iload_n 1, 1) := by decide +kernel
theorem dX6_turn_248 : decode cX6_turn 248 = .ok (.iastore, 1) := by decide +kernel
theorem dX6_turn_249 : decode cX6_turn 249 = .ok (.aload_n 0, 1) := by decide +kernel
theorem dX6_turn_250 : decode cX6_turn 250 = .ok (.getfield 15, 3) := by decide +kernel
theorem dX6_turn_253 : decode cX6_turn 253 = .ok (.iconst 1, 1) := by decide +kernel
theorem dX6_turn_254 : decode cX6_turn 254 = .ok (.iload_n 2, 1) := by decide +kernel
theorem dX6_turn_255 : decode cX6_turn 255 = .ok (.iastore, 1) := by decide +kernel
theorem dX6_turn_256 : decode cX6_turn 256 = .ok (.aload_n 0, 1) := by decide +kernel
theorem dX6_turn_257 : decode cX6_turn 257 = .ok (.getfield 15, 3) := by decide +kernel
theorem dX6_turn_260 : decode cX6_turn 260 = .ok (.iconst 2, 1) := by decide +kernel
theorem dX6_turn_261 : decode cX6_turn 261 = .ok (.iload_n 3, 1) := by decide +kernel
theorem dX6_turn_262 : decode cX6_turn 262 = .ok (.iastore, 1) := by decide +kernel
theorem dX6_turn_263 : decode cX6_turn 263 = .ok (.aload_n 0, 1) := by decide +kernel
theorem dX6_turn_264 : decode cX6_turn 264 = .ok (.getfield 15, 3) := by decide +kernel
theorem dX6_turn_267 : decode cX6_turn 267 = .ok (.iconst 3, 1) := by decide +kernel
theorem dX6_turn_268 : decode cX6_turn 268 = .ok (.iload 4, 2) := by decide +kernel
theorem dX6_turn_270 : decode cX6_turn 270 = .ok (.iastore, 1) := by decide +kernel
theorem dX6_turn_271 : decode cX6_turn 271 = .ok (.aload_n 0, 1) := by decide +kernel
theorem dX6_turn_272 : decode cX6_turn 272 = .ok (.getfield 15, 3) := by decide +kernel
theorem dX6_turn_275 : decode cX6_turn 275 = .ok (.iconst 4, 1) := by decide +kernel
theorem dX6_turn_276 : decode cX6_turn 276 = .ok (.iload 5, 2) := by decide +kernel
theorem dX6_turn_278 : decode cX6_turn 278 = .ok (.iastore, 1) := by decide +kernel
theorem dX6_turn_279 : decode cX6_turn 279 = .ok (.aload_n 0, 1) := by decide +kernel
theorem dX6_turn_280 : decode cX6_turn 280 = .ok (.getfield 15, 3) := by decide +kernel
theorem dX6_turn_283 : decode cX6_turn 283 = .ok (.iconst 5, 1) := by decide +kernel
theorem dX6_turn_284 : decode cX6_turn 284 = .ok (.iload 6, 2) := by decide +kernel
theorem dX6_turn_286 : decode cX6_turn 286 = .ok (.iastore, 1) := by decide +kernel
theorem dX6_turn_287 : decode cX6_turn 287 = .ok (.aload_n 0, 1) := by decide +kernel
theorem dX6_turn_288 : decode cX6_turn 288 = .ok (.getfield 15, 3) := by decide +kernel
theorem dX6_turn_291 : decode cX6_turn 291 = .ok (.bipush 6, 2) := by decide +kernel
theorem dX6_turn_293 : decode cX6_turn 293 = .ok (.iload 7, 2) := by decide +kernel
theorem dX6_turn_295 : decode cX6_turn 295 = .ok (.iastore, 1) := by decide +kernel
theorem dX6_turn_296 : decode cX6_turn 296 = .ok (.aload_n 0, 1) := by decide +kernel
theorem dX6_turn_297 : decode cX6_turn 297 = .ok (.getfield 15, 3) := by decide +kernel
theorem dX6_turn_300 : decode cX6_turn 300 = .ok (.bipush 7, 2) := by decide +kernel
theorem dX6_turn_302 : decode cX6_turn 302 = .ok (.iload 8, 2) := by decide +kernel
theorem dX6_turn_304 : decode cX6_turn 304 = .ok (.iastore, 1) := by decide +kernel
theorem dX6_turn_305 : decode cX6_turn 305 = .ok (.return_, 1) := by decide +kernel
theorem dX7_init_0 : decode cX7_init 0 = .ok (.aload_n 0, 1) := by decide +kernel
theorem dX7_init_1 : decode cX7_init 1 = .ok (.invokespecial 3, 3) := by decide +kernel
theorem dX7_init_4 : decode cX7_init 4 = .ok (.aload_n 0, 1) := by decide +kernel
theorem dX7_init_5 : decode cX7_init 5 = .ok (.bipush 40, 2) := by decide +kernel
theorem dX7_init_7 : decode cX7_init 7 = .ok (.newarray .int, 2) := by decide +kernel
theorem dX7_init_9 : decode cX7_init 9 = .ok (.putfield 9, 3) := by decide +kernel
theorem dX7_init_12 : decode cX7_init 12 = .ok (.aload_n 0, 1) := by decide +kernel
theorem dX7_init_13 : decode cX7_init 13 = .ok (.bipush 40, 2) := by decide +kernel
theorem dX7_init_15 : decode cX7_init 15 = .ok (.newarray .long, 2) := by decide +kernel
theorem dX7_init_17 : decode cX7_init 17 = .ok (.putfield 15, 3) := by decide +kernel
theorem dX7_init_20 : decode cX7_init 20 = .ok (.aload_n 0, 1) := by decide +kernel
theorem dX7_init_21 : decode cX7_init 21 = .ok (.sipush 128, 3) := by decide +kernel
theorem dX7_init_24 : decode cX7_init 24 = .ok (.newarray .int, 2) := by decide +kernel
theorem dX7_init_26 : decode cX7_init 26 = .ok (.putfield 19, 3) := by decide +kernel
theorem dX7_init_29 : decode cX7_init 29 = .ok (.return_, 1) := by decide +kernel
theorem dX7_begin_0 : decode cX7_begin 0 = .ok (.aload_n 0, 1) := by decide +kernel
theorem dX7_begin_1 : decode cX7_begin 1 = .ok (.iload_n 1, 1) := by decide +kernel
theorem dX7_begin_2 : decode cX7_begin 2 = .ok (.putfield 22, 3) := by decide +kernel
theorem dX7_begin_5 : decode cX7_begin 5 = .ok (.aload_n 0, 1) := by decide +kernel
theorem dX7_begin_6 : decode cX7_begin 6 = .ok (.iload_n 2, 1) := by decide +kernel
theorem dX7_begin_7 : decode cX7_begin 7 = .ok (.putfield 26, 3) := by decide +kernel
theorem dX7_begin_10 : decode cX7_begin 10 = .ok (.aload_n 0, 1) := by decide +kernel
theorem dX7_begin_11 : decode cX7_begin 11 = .ok (.iload_n 3, 1) := by decide +kernel
theorem dX7_begin_12 : decode cX7_begin 12 = .ok (.putfield 29, 3) := by decide +kernel
theorem dX7_begin_15 : decode cX7_begin 15 = .ok (.aload_n 0, 1) := by decide +kernel
theorem dX7_begin_16 : decode cX7_begin 16 = .ok (.iconst 0, 1) := by decide +kernel
theorem dX7_begin_17 : decode cX7_begin 17 = .ok (.putfield 32, 3) := by decide +kernel
theorem dX7_begin_20 : decode cX7_begin 20 = .ok (.aload_n 0, 1) := by decide +kernel
theorem dX7_begin_21 : decode cX7_begin 21 = .ok (.iconst 0, 1) := by decide +kernel
theorem dX7_begin_22 : decode cX7_begin 22 = .ok (.putfield 35, 3) := by decide +kernel
theorem dX7_begin_25 : decode cX7_begin 25 = .ok (.aload_n 0, 1) := by decide +kernel
theorem dX7_begin_26 : decode cX7_begin 26 = .ok (.iconst 0, 1) := by decide +kernel
theorem dX7_begin_27 : decode cX7_begin 27 = .ok (.putfield 38, 3) := by decide +kernel
theorem dX7_begin_30 : decode cX7_begin 30 = .ok (.aload_n 0, 1) := by decide +kernel
theorem dX7_begin_31 : decode cX7_begin 31 = .ok (.iconst 0, 1) := by decide +kernel
theorem dX7_begin_32 : decode cX7_begin 32 = .ok (.putfield 41, 3) := by decide +kernel
theorem dX7_begin_35 : decode cX7_begin 35 = .ok (.aload_n 0, 1) := by decide +kernel
theorem dX7_begin_36 : decode cX7_begin 36 = .ok (.iconst 0, 1) := by decide +kernel
theorem dX7_begin_37 : decode cX7_begin 37 = .ok (.putfield 44, 3) := by decide +kernel
theorem dX7_begin_40 : decode cX7_begin 40 = .ok (.aload_n 0, 1) := by decide +kernel
theorem dX7_begin_41 : decode cX7_begin 41 = .ok (.iconst 0, 1) := by decide +kernel
theorem dX7_begin_42 : decode cX7_begin 42 = .ok (.putfield 47, 3) := by decide +kernel
theorem dX7_begin_45 : decode cX7_begin 45 = .ok (.return_, 1) := by decide +kernel
theorem dX7_tellEntry_0 : decode cX7_tellEntry 0 = .ok (.aload_n 0, 1) := by decide +kernel
theorem dX7_tellEntry_1 : decode cX7_tellEntry 1 = .ok (.getfield 44, 3) := by decide +kernel
theorem dX7_tellEntry_4 : decode cX7_tellEntry 4 = .ok (.bipush 40, 2) := by decide +kernel
theorem dX7_tellEntry_6 : decode cX7_tellEntry 6 = .ok (.if_icmp .ge 33, 3) := by decide +kernel
theorem dX7_tellEntry_9 : decode cX7_tellEntry 9 = .ok (.aload_n 0, 1) := by decide +kernel
theorem dX7_tellEntry_10 : decode cX7_tellEntry 10 = .ok (.getfield 9, 3) := by decide +kernel
theorem dX7_tellEntry_13 : decode cX7_tellEntry 13 = .ok (.aload_n 0, 1) := by decide +kernel
theorem dX7_tellEntry_14 : decode cX7_tellEntry 14 = .ok (.getfield 44, 3) := by decide +kernel
theorem dX7_tellEntry_17 : decode cX7_tellEntry 17 = .ok (.iload_n 1, 1) := by decide +kernel
theorem dX7_tellEntry_18 : decode cX7_tellEntry 18 = .ok (.iastore, 1) := by decide +kernel
theorem dX7_tellEntry_19 : decode cX7_tellEntry 19 = .ok (.aload_n 0, 1) := by decide +kernel
theorem dX7_tellEntry_20 : decode cX7_tellEntry 20 = .ok (.getfield 15, 3) := by decide +kernel
theorem dX7_tellEntry_23 : decode cX7_tellEntry 23 = .ok (.aload_n 0, 1) := by decide +kernel
theorem dX7_tellEntry_24 : decode cX7_tellEntry 24 = .ok (.getfield 44, 3) := by decide +kernel
theorem dX7_tellEntry_27 : decode cX7_tellEntry 27 = .ok (.lload_n 2, 1) := by decide +kernel
theorem dX7_tellEntry_28 : decode cX7_tellEntry 28 = .ok (.lastore, 1) := by decide +kernel
theorem dX7_tellEntry_29 : decode cX7_tellEntry 29 = .ok (.aload_n 0, 1) := by decide +kernel
theorem dX7_tellEntry_30 : decode cX7_tellEntry 30 = .ok (.dup, 1) := by decide +kernel
theorem dX7_tellEntry_31 : decode cX7_tellEntry 31 = .ok (.getfield 44, 3) := by decide +kernel
theorem dX7_tellEntry_34 : decode cX7_tellEntry 34 = .ok (.iconst 1, 1) := by decide +kernel
theorem dX7_tellEntry_35 : decode cX7_tellEntry 35 = .ok (.iadd, 1) := by decide +kernel
theorem dX7_tellEntry_36 : decode cX7_tellEntry 36 = .ok (.putfield 44, 3) := by decide +kernel
theorem dX7_tellEntry_39 : decode cX7_tellEntry 39 = .ok (.return_, 1) := by decide +kernel
theorem dX7_tellStep_0 : decode cX7_tellStep 0 = .ok (.aload_n 0, 1) := by decide +kernel
theorem dX7_tellStep_1 : decode cX7_tellStep 1 = .ok (.getfield 47, 3) := by decide +kernel
theorem dX7_tellStep_4 : decode cX7_tellStep 4 = .ok (.sipush 256, 3) := by decide +kernel
theorem dX7_tellStep_7 : decode cX7_tellStep 7 = .ok (.if_icmp .lt 4, 3) := by decide +kernel
theorem dX7_tellStep_10 : decode cX7_tellStep 10 = .ok (.return_, 1) := by decide +kernel
theorem dX7_tellStep_11 : decode cX7_tellStep 11 = .ok (.aload_n 0, 1) := by decide +kernel
theorem dX7_tellStep_12 : decode cX7_tellStep 12 = .ok (.getfield 47, 3) := by decide +kernel
theorem dX7_tellStep_15 : decode cX7_tellStep 15 = .ok (.iconst 1, 1) := by decide +kernel
theorem dX7_tellStep_16 : decode cX7_tellStep 16 = .ok (.iadd, 1) := by decide +kernel
theorem dX7_tellStep_17 : decode cX7_tellStep 17 = .ok (.bipush 8, 2) := by decide +kernel
theorem dX7_tellStep_19 : decode cX7_tellStep 19 = .ok (.imul, 1) := by decide +kernel
theorem dX7_tellStep_20 : decode cX7_tellStep 20 = .ok (.aload_n 0, 1) := by decide +kernel
theorem dX7_tellStep_21 : decode cX7_tellStep 21 = .ok (.getfield 19, 3) := by decide +kernel
theorem dX7_tellStep_24 : decode cX7_tellStep 24 = .ok (.arraylength, 1) := by decide +kernel
theorem dX7_tellStep_25 : decode cX7_tellStep 25 = .ok (.if_icmp .le 21, 3) := by decide +kernel
theorem dX7_tellStep_28 : decode cX7_tellStep 28 = .ok (.aload_n 0, 1) := by decide +kernel
theorem dX7_tellStep_29 : decode cX7_tellStep 29 = .ok (.aload_n 0, 1) := by decide +kernel
theorem dX7_tellStep_30 : decode cX7_tellStep 30 = .ok (.getfield 19, 3) := by decide +kernel
theorem dX7_tellStep_33 : decode cX7_tellStep 33 = .ok (.iconst 2, 1) := by decide +kernel
theorem dX7_tellStep_34 : decode cX7_tellStep 34 = .ok (.aload_n 0, 1) := by decide +kernel
theorem dX7_tellStep_35 : decode cX7_tellStep 35 = .ok (.getfield 19, 3) := by decide +kernel
theorem dX7_tellStep_38 : decode cX7_tellStep 38 = .ok (.arraylength, 1) := by decide +kernel
theorem dX7_tellStep_39 : decode cX7_tellStep 39 = .ok (.imul, 1) := by decide +kernel
theorem dX7_tellStep_40 : decode cX7_tellStep 40 = .ok (.invokestatic 50, 3) := by decide +kernel
theorem dX7_tellStep_43 : decode cX7_tellStep 43 = .ok (.putfield 19, 3) := by decide +kernel
theorem dX7_tellStep_46 : decode cX7_tellStep 46 = .ok (.aload_n 1, 1) := by decide +kernel
theorem dX7_tellStep_47 : decode cX7_tellStep 47 = .ok (.iload_n 2, 1) := by decide +kernel
theorem dX7_tellStep_48 : decode cX7_tellStep 48 = .ok (.aload_n 0, 1) := by decide +kernel
theorem dX7_tellStep_49 : decode cX7_tellStep 49 = .ok (.getfield 19, 3) := by decide +kernel
theorem dX7_tellStep_52 : decode cX7_tellStep 52 = .ok (.aload_n 0, 1) := by decide +kernel
theorem dX7_tellStep_53 : decode cX7_tellStep 53 = .ok (.getfield 47, 3) := by decide +kernel
theorem dX7_tellStep_56 : decode cX7_tellStep 56 = .ok (.invokestatic 56, 3) := by decide +kernel
theorem dX7_tellStep_59 : decode cX7_tellStep 59 = .ok (.aload_n 0, 1) := by decide +kernel
theorem dX7_tellStep_60 : decode cX7_tellStep 60 = .ok (.dup, 1) := by decide +kernel
theorem dX7_tellStep_61 : decode cX7_tellStep 61 = .ok (.getfield 47, 3) := by decide +kernel
theorem dX7_tellStep_64 : decode cX7_tellStep 64 = .ok (.iconst 1, 1) := by decide +kernel
theorem dX7_tellStep_65 : decode cX7_tellStep 65 = .ok (.iadd, 1) := by decide +kernel
theorem dX7_tellStep_66 : decode cX7_tellStep 66 = .ok (.putfield 47, 3) := by decide +kernel
theorem dX7_tellStep_69 : decode cX7_tellStep 69 = .ok (.return_, 1) := by decide +kernel
theorem dX7_hasStep_0 : decode cX7_hasStep 0 = .ok (.iload_n 1, 1) := by decide +kernel
theorem dX7_hasStep_1 : decode cX7_hasStep 1 = .ok (.ifCond .lt 15, 3) := by decide +kernel
theorem dX7_hasStep_4 : decode cX7_hasStep 4 = .ok (.iload_n 1, 1) := by decide +kernel
theorem dX7_hasStep_5 : decode cX7_hasStep 5 = .ok (.aload_n 0, 1) := by decide +kernel
theorem dX7_hasStep_6 : decode cX7_hasStep 6 = .ok (.getfield 47, 3) := by decide +kernel
theorem dX7_hasStep_9 : decode cX7_hasStep 9 = .ok (.if_icmp .ge 7, 3) := by decide +kernel
theorem dX7_hasStep_12 : decode cX7_hasStep 12 = .ok (.iconst 1, 1) := by decide +kernel
theorem dX7_hasStep_13 : decode cX7_hasStep 13 = .ok (.goto 4, 3) := by decide +kernel
theorem dX7_hasStep_16 : decode cX7_hasStep 16 = .ok (.iconst 0, 1) := by decide +kernel
theorem dX7_hasStep_17 : decode cX7_hasStep 17 = .ok (.ireturn, 1) := by decide +kernel
theorem dX7_toldKey_0 : decode cX7_toldKey 0 = .ok (.aload_n 0, 1) := by decide +kernel
theorem dX7_toldKey_1 : decode cX7_toldKey 1 = .ok (.getfield 44, 3) := by decide +kernel
theorem dX7_toldKey_4 : decode cX7_toldKey 4 = .ok (.ifCond .le 12, 3) := by decide +kernel
theorem dX7_toldKey_7 : decode cX7_toldKey 7 = .ok (.aload_n 0, 1) := by decide +kernel
theorem dX7_toldKey_8 : decode cX7_toldKey 8 = .ok (.getfield 9, 3) := by decide +kernel
theorem dX7_toldKey_11 : decode cX7_toldKey 11 = .ok (.iconst 0, 1) := by decide +kernel
theorem dX7_toldKey_12 : decode cX7_toldKey 12 = .ok (.iaload, 1) := by decide +kernel
theorem dX7_toldKey_13 : decode cX7_toldKey 13 = .ok (.goto 7, 3) := by decide +kernel
theorem dX7_toldKey_16 : decode cX7_toldKey 16 = .ok (.aload_n 0, 1) := by decide +kernel
theorem dX7_toldKey_17 : decode cX7_toldKey 17 = .ok (.getfield 35, 3) := by decide +kernel
theorem dX7_toldKey_20 : decode cX7_toldKey 20 = .ok (.ireturn, 1) := by decide +kernel
theorem dX7_copy_0 : decode cX7_copy 0 = .ok (.aload_n 0, 1) := by decide +kernel
theorem dX7_copy_1 : decode cX7_copy 1 = .ok (.aload_n 1, 1) := by decide +kernel
theorem dX7_copy_2 : decode cX7_copy 2 = .ok (.getfield 22, 3) := by decide +kernel
theorem dX7_copy_5 : decode cX7_copy 5 = .ok (.aload_n 1, 1) := by decide +kernel
theorem dX7_copy_6 : decode cX7_copy 6 = .ok (.getfield 26, 3) := by decide +kernel
theorem dX7_copy_9 : decode cX7_copy 9 = .ok (.aload_n 1, 1) := by decide +kernel
theorem dX7_copy_10 : decode cX7_copy 10 = .ok (.getfield 29, 3) := by decide +kernel
theorem dX7_copy_13 : decode cX7_copy 13 = .ok (.invokevirtual 60, 3) := by decide +kernel
theorem dX7_copy_16 : decode cX7_copy 16 = .ok (.aload_n 0, 1) := by decide +kernel
theorem dX7_copy_17 : decode cX7_copy 17 = .ok (.aload_n 1, 1) := by decide +kernel
theorem dX7_copy_18 : decode cX7_copy 18 = .ok (.getfield 32, 3) := by decide +kernel
theorem dX7_copy_21 : decode cX7_copy 21 = .ok (.putfield 32, 3) := by decide +kernel
theorem dX7_copy_24 : decode cX7_copy 24 = .ok (.aload_n 0, 1) := by decide +kernel
theorem dX7_copy_25 : decode cX7_copy 25 = .ok (.aload_n 1, 1) := by decide +kernel
theorem dX7_copy_26 : decode cX7_copy 26 = .ok (.getfield 35, 3) := by decide +kernel
theorem dX7_copy_29 : decode cX7_copy 29 = .ok (.putfield 35, 3) := by decide +kernel
theorem dX7_copy_32 : decode cX7_copy 32 = .ok (.aload_n 0, 1) := by decide +kernel
theorem dX7_copy_33 : decode cX7_copy 33 = .ok (.aload_n 1, 1) := by decide +kernel
theorem dX7_copy_34 : decode cX7_copy 34 = .ok (.getfield 38, 3) := by decide +kernel
theorem dX7_copy_37 : decode cX7_copy 37 = .ok (.putfield 38, 3) := by decide +kernel
theorem dX7_copy_40 : decode cX7_copy 40 = .ok (.aload_n 0, 1) := by decide +kernel
theorem dX7_copy_41 : decode cX7_copy 41 = .ok (.aload_n 1, 1) := by decide +kernel
theorem dX7_copy_42 : decode cX7_copy 42 = .ok (.getfield 41, 3) := by decide +kernel
theorem dX7_copy_45 : decode cX7_copy 45 = .ok (.putfield 41, 3) := by decide +kernel
theorem dX7_copy_48 : decode cX7_copy 48 = .ok (.iconst 0, 1) := by decide +kernel
theorem dX7_copy_49 : decode cX7_copy 49 = .ok (.istore_n 2, 1) := by decide +kernel
theorem dX7_copy_50 : decode cX7_copy 50 = .ok (.iload_n 2, 1) := by decide +kernel
theorem dX7_copy_51 : decode cX7_copy 51 = .ok (.aload_n 1, 1) := by decide +kernel
theorem dX7_copy_52 : decode cX7_copy 52 = .ok (.getfield 44, 3) := by decide +kernel
theorem dX7_copy_55 : decode cX7_copy 55 = .ok (.if_icmp .ge 25, 3) := by decide +kernel
theorem dX7_copy_58 : decode cX7_copy 58 = .ok (.aload_n 0, 1) := by decide +kernel
theorem dX7_copy_59 : decode cX7_copy 59 = .ok (.aload_n 1, 1) := by decide +kernel
theorem dX7_copy_60 : decode cX7_copy 60 = .ok (.getfield 9, 3) := by decide +kernel
theorem dX7_copy_63 : decode cX7_copy 63 = .ok (.iload_n 2, 1) := by decide +kernel
theorem dX7_copy_64 : decode cX7_copy 64 = .ok (.iaload, 1) := by decide +kernel
theorem dX7_copy_65 : decode cX7_copy 65 = .ok (.aload_n 1, 1) := by decide +kernel
theorem dX7_copy_66 : decode cX7_copy 66 = .ok (.getfield 15, 3) := by decide +kernel
theorem dX7_copy_69 : decode cX7_copy 69 = .ok (.iload_n 2, 1) := by decide +kernel
theorem dX7_copy_70 : decode cX7_copy 70 = .ok (.laload, 1) := by decide +kernel
theorem dX7_copy_71 : decode cX7_copy 71 = .ok (.invokevirtual 64, 3) := by decide +kernel
theorem dX7_copy_74 : decode cX7_copy 74 = .ok (.iinc 2 1, 3) := by decide +kernel
theorem dX7_copy_77 : decode cX7_copy 77 = .ok (.goto (-27), 3) := by decide +kernel
theorem dX7_copy_80 : decode cX7_copy 80 = .ok (.iconst 0, 1) := by decide +kernel
theorem dX7_copy_81 : decode cX7_copy 81 = .ok (.istore_n 2, 1) := by decide +kernel
theorem dX7_copy_82 : decode cX7_copy 82 = .ok (.iload_n 2, 1) := by decide +kernel
theorem dX7_copy_83 : decode cX7_copy 83 = .ok (.aload_n 1, 1) := by decide +kernel
theorem dX7_copy_84 : decode cX7_copy 84 = .ok (.getfield 47, 3) := by decide +kernel
theorem dX7_copy_87 : decode cX7_copy 87 = .ok (.if_icmp .ge 18, 3) := by decide +kernel
theorem dX7_copy_90 : decode cX7_copy 90 = .ok (.aload_n 0, 1) := by decide +kernel
theorem dX7_copy_91 : decode cX7_copy 91 = .ok (.aload_n 1, 1) := by decide +kernel
theorem dX7_copy_92 : decode cX7_copy 92 = .ok (.getfield 19, 3) := by decide +kernel
theorem dX7_copy_95 : decode cX7_copy 95 = .ok (.iload_n 2, 1) := by decide +kernel
theorem dX7_copy_96 : decode cX7_copy 96 = .ok (.invokevirtual 68, 3) := by decide +kernel
theorem dX7_copy_99 : decode cX7_copy 99 = .ok (.iinc 2 1, 3) := by decide +kernel
theorem dX7_copy_102 : decode cX7_copy 102 = .ok (.goto (-20), 3) := by decide +kernel
theorem dX7_copy_105 : decode cX7_copy 105 = .ok (.return_, 1) := by decide +kernel
theorem dX9_init_0 : decode cX9_init 0 = .ok (.aload_n 0, 1) := by decide +kernel
theorem dX9_init_1 : decode cX9_init 1 = .ok (.invokespecial 3, 3) := by decide +kernel
theorem dX9_init_4 : decode cX9_init 4 = .ok (.aload_n 0, 1) := by decide +kernel
theorem dX9_init_5 : decode cX9_init 5 = .ok (.bipush 12, 2) := by decide +kernel
theorem dX9_init_7 : decode cX9_init 7 = .ok (.newarray .int, 2) := by decide +kernel
theorem dX9_init_9 : decode cX9_init 9 = .ok (.putfield 11, 3) := by decide +kernel
theorem dX9_init_12 : decode cX9_init 12 = .ok (.aload_n 0, 1) := by decide +kernel
theorem dX9_init_13 : decode cX9_init 13 = .ok (.bipush 12, 2) := by decide +kernel
theorem dX9_init_15 : decode cX9_init 15 = .ok (.newarray .int, 2) := by decide +kernel
theorem dX9_init_17 : decode cX9_init 17 = .ok (.putfield 15, 3) := by decide +kernel
theorem dX9_init_20 : decode cX9_init 20 = .ok (.aload_n 0, 1) := by decide +kernel
theorem dX9_init_21 : decode cX9_init 21 = .ok (.bipush 96, 2) := by decide +kernel
theorem dX9_init_23 : decode cX9_init 23 = .ok (.newarray .int, 2) := by decide +kernel
theorem dX9_init_25 : decode cX9_init 25 = .ok (.putfield 18, 3) := by decide +kernel
theorem dX9_init_28 : decode cX9_init 28 = .ok (.aload_n 0, 1) := by decide +kernel
theorem dX9_init_29 : decode cX9_init 29 = .ok (.aload_n 1, 1) := by decide +kernel
theorem dX9_init_30 : decode cX9_init 30 = .ok (.putfield 21, 3) := by decide +kernel
theorem dX9_init_33 : decode cX9_init 33 = .ok (.return_, 1) := by decide +kernel
theorem dX9_clear_0 : decode cX9_clear 0 = .ok (.aload_n 0, 1) := by decide +kernel
theorem dX9_clear_1 : decode cX9_clear 1 = .ok (.iconst 0, 1) := by decide +kernel
theorem dX9_clear_2 : decode cX9_clear 2 = .ok (.putfield 25, 3) := by decide +kernel
theorem dX9_clear_5 : decode cX9_clear 5 = .ok (.return_, 1) := by decide +kernel
theorem dX9_put_0 : decode cX9_put 0 = .ok (.aload_n 0, 1) := by decide +kernel
theorem dX9_put_1 : decode cX9_put 1 = .ok (.getfield 25, 3) := by decide +kernel
theorem dX9_put_4 : decode cX9_put 4 = .ok (.bipush 12, 2) := by decide +kernel
theorem dX9_put_6 : decode cX9_put 6 = .ok (.if_icmp .lt 4, 3) := by decide +kernel
theorem dX9_put_9 : decode cX9_put 9 = .ok (.return_, 1) := by decide +kernel
theorem dX9_put_10 : decode cX9_put 10 = .ok (.aload_n 0, 1) := by decide +kernel
theorem dX9_put_11 : decode cX9_put 11 = .ok (.getfield 11, 3) := by decide +kernel
theorem dX9_put_14 : decode cX9_put 14 = .ok (.aload_n 0, 1) := by decide +kernel
theorem dX9_put_15 : decode cX9_put 15 = .ok (.getfield 25, 3) := by decide +kernel
theorem dX9_put_18 : decode cX9_put 18 = .ok (.iload_n 1, 1) := by decide +kernel
theorem dX9_put_19 : decode cX9_put 19 = .ok (.iastore, 1) := by decide +kernel
theorem dX9_put_20 : decode cX9_put 20 = .ok (.aload_n 0, 1) := by decide +kernel
theorem dX9_put_21 : decode cX9_put 21 = .ok (.getfield 15, 3) := by decide +kernel
theorem dX9_put_24 : decode cX9_put 24 = .ok (.aload_n 0, 1) := by decide +kernel
theorem dX9_put_25 : decode cX9_put 25 = .ok (.getfield 25, 3) := by decide +kernel
theorem dX9_put_28 : decode cX9_put 28 = .ok (.iload_n 2, 1) := by decide +kernel
theorem dX9_put_29 : decode cX9_put 29 = .ok (.iastore, 1) := by decide +kernel
theorem dX9_put_30 : decode cX9_put 30 = .ok (.aload_n 3, 1) := by decide +kernel
theorem dX9_put_31 : decode cX9_put 31 = .ok (.iload 4, 2) := by decide +kernel
theorem dX9_put_33 : decode cX9_put 33 = .ok (.aload_n 0, 1) := by decide +kernel
theorem dX9_put_34 : decode cX9_put 34 = .ok (.getfield 18, 3) := by decide +kernel
theorem dX9_put_37 : decode cX9_put 37 = .ok (.aload_n 0, 1) := by decide +kernel
theorem dX9_put_38 : decode cX9_put 38 = .ok (.getfield 25, 3) := by decide +kernel
theorem dX9_put_41 : decode cX9_put 41 = .ok (.invokestatic 29, 3) := by decide +kernel
theorem dX9_put_44 : decode cX9_put 44 = .ok (.aload_n 0, 1) := by decide +kernel
theorem dX9_put_45 : decode cX9_put 45 = .ok (.dup, 1) := by decide +kernel
theorem dX9_put_46 : decode cX9_put 46 = .ok (.getfield 25, 3) := by decide +kernel
theorem dX9_put_49 : decode cX9_put 49 = .ok (.iconst 1, 1) := by decide +kernel
theorem dX9_put_50 : decode cX9_put 50 = .ok (.iadd, 1) := by decide +kernel
theorem dX9_put_51 : decode cX9_put 51 = .ok (.putfield 25, 3) := by decide +kernel
theorem dX9_put_54 : decode cX9_put 54 = .ok (.aload_n 0, 1) := by decide +kernel
theorem dX9_put_55 : decode cX9_put 55 = .ok (.getfield 25, 3) := by decide +kernel
theorem dX9_put_58 : decode cX9_put 58 = .ok (.iconst 1, 1) := by decide +kernel
theorem dX9_put_59 : decode cX9_put 59 = .ok (.isub, 1) := by decide +kernel
theorem dX9_put_60 : decode cX9_put 60 = .ok (.istore 5, 2) := by decide +kernel
theorem dX9_put_62 : decode cX9_put 62 = .ok (.iload 5, 2) := by decide +kernel
theorem dX9_put_64 : decode cX9_put 64 = .ok (.ifCond .le 70, 3) := by decide +kernel
theorem dX9_put_67 : decode cX9_put 67 = .ok (.aload_n 0, 1) := by decide +kernel
theorem dX9_put_68 : decode cX9_put 68 = .ok (.iload 5, 2) := by decide +kernel
theorem dX9_put_70 : decode cX9_put 70 = .ok (.iconst 1, 1) := by decide +kernel
theorem dX9_put_71 : decode cX9_put 71 = .ok (.isub, 1) := by decide +kernel
theorem dX9_put_72 : decode cX9_put 72 = .ok (.iload 5, 2) := by decide +kernel
theorem dX9_put_74 : decode cX9_put 74 = .ok (.invokevirtual 33, 3) := by decide +kernel
theorem dX9_put_77 : decode cX9_put 77 = .ok (.ifCond .eq 57, 3) := by decide +kernel
theorem dX9_put_80 : decode cX9_put 80 = .ok (.aload_n 0, 1) := by decide +kernel
theorem dX9_put_81 : decode cX9_put 81 = .ok (.getfield 21, 3) := by decide +kernel
theorem dX9_put_84 : decode cX9_put 84 = .ok (.aload_n 0, 1) := by decide +kernel
theorem dX9_put_85 : decode cX9_put 85 = .ok (.getfield 18, 3) := by decide +kernel
theorem dX9_put_88 : decode cX9_put 88 = .ok (.iload 5, 2) := by decide +kernel
theorem dX9_put_90 : decode cX9_put 90 = .ok (.iconst 1, 1) := by decide +kernel
theorem dX9_put_91 : decode cX9_put 91 = .ok (.isub, 1) := by decide +kernel
theorem dX9_put_92 : decode cX9_put 92 = .ok (.aload_n 0, 1) := by decide +kernel
theorem dX9_put_93 : decode cX9_put 93 = .ok (.getfield 18, 3) := by decide +kernel
theorem dX9_put_96 : decode cX9_put 96 = .ok (.iload 5, 2) := by decide +kernel
theorem dX9_put_98 : decode cX9_put 98 = .ok (.aload_n 0, 1) := by decide +kernel
theorem dX9_put_99 : decode cX9_put 99 = .ok (.getfield 18, 3) := by decide +kernel
theorem dX9_put_102 : decode cX9_put 102 = .ok (.iload 5, 2) := by decide +kernel
theorem dX9_put_104 : decode cX9_put 104 = .ok (.iconst 1, 1) := by decide +kernel
theorem dX9_put_105 : decode cX9_put 105 = .ok (.isub, 1) := by decide +kernel
theorem dX9_put_106 : decode cX9_put 106 = .ok (.invokevirtual 37, 3) := by decide +kernel
theorem dX9_put_109 : decode cX9_put 109 = .ok (.aload_n 0, 1) := by decide +kernel
theorem dX9_put_110 : decode cX9_put 110 = .ok (.getfield 15, 3) := by decide +kernel
theorem dX9_put_113 : decode cX9_put 113 = .ok (.iload 5, 2) := by decide +kernel
theorem dX9_put_115 : decode cX9_put 115 = .ok (.iconst 1, 1) := by decide +kernel
theorem dX9_put_116 : decode cX9_put 116 = .ok (.isub, 1) := by decide +kernel
theorem dX9_put_117 : decode cX9_put 117 = .ok (.dup2, 1) := by decide +kernel
theorem dX9_put_118 : decode cX9_put 118 = .ok (.iaload, 1) := by decide +kernel
theorem dX9_put_119 : decode cX9_put 119 = .ok (.iconst 2, 1) := by decide +kernel
theorem dX9_put_120 : decode cX9_put 120 = .ok (.imul, 1) := by decide +kernel
theorem dX9_put_121 : decode cX9_put 121 = .ok (.iastore, 1) := by decide +kernel
theorem dX9_put_122 : decode cX9_put 122 = .ok (.aload_n 0, 1) := by decide +kernel
theorem dX9_put_123 : decode cX9_put 123 = .ok (.iload 5, 2) := by decide +kernel
theorem dX9_put_125 : decode cX9_put 125 = .ok (.putfield 25, 3) := by decide +kernel
theorem dX9_put_128 : decode cX9_put 128 = .ok (.iinc 5 (-1), 3) := by decide +kernel
theorem dX9_put_131 : decode cX9_put 131 = .ok (.goto (-69), 3) := by decide +kernel
theorem dX9_put_134 : decode cX9_put 134 = .ok (.return_, 1) := by decide +kernel
theorem dX9_areOne_0 : decode cX9_areOne 0 = .ok (.aload_n 0, 1) := by decide +kernel
theorem dX9_areOne_1 : decode cX9_areOne 1 = .ok (.getfield 15, 3) := by decide +kernel
theorem dX9_areOne_4 : decode cX9_areOne 4 = .ok (.iload_n 1, 1) := by decide +kernel
theorem dX9_areOne_5 : decode cX9_areOne 5 = .ok (.iaload, 1) := by decide +kernel
theorem dX9_areOne_6 : decode cX9_areOne 6 = .ok (.istore_n 3, 1) := by decide +kernel
theorem dX9_areOne_7 : decode cX9_areOne 7 = .ok (.iload_n 3, 1) := by decide +kernel
theorem dX9_areOne_8 : decode cX9_areOne 8 = .ok (.aload_n 0, 1) := by decide +kernel
theorem dX9_areOne_9 : decode cX9_areOne 9 = .ok (.getfield 15, 3) := by decide +kernel
theorem dX9_areOne_12 : decode cX9_areOne 12 = .ok (.iload_n 2, 1) := by decide +kernel
theorem dX9_areOne_13 : decode cX9_areOne 13 = .ok (.iaload, 1) := by decide +kernel
theorem dX9_areOne_14 : decode cX9_areOne 14 = .ok (.if_icmp .ne 22, 3) := by decide +kernel
theorem dX9_areOne_17 : decode cX9_areOne 17 = .ok (.aload_n 0, 1) := by decide +kernel
theorem dX9_areOne_18 : decode cX9_areOne 18 = .ok (.getfield 11, 3) := by decide +kernel
theorem dX9_areOne_21 : decode cX9_areOne 21 = .ok (.iload_n 1, 1) := by decide +kernel
theorem dX9_areOne_22 : decode cX9_areOne 22 = .ok (.iaload, 1) := by decide +kernel
theorem dX9_areOne_23 : decode cX9_areOne 23 = .ok (.iconst 2, 1) := by decide +kernel
theorem dX9_areOne_24 : decode cX9_areOne 24 = .ok (.iload_n 3, 1) := by decide +kernel
theorem dX9_areOne_25 : decode cX9_areOne 25 = .ok (.imul, 1) := by decide +kernel
theorem dX9_areOne_26 : decode cX9_areOne 26 = .ok (.iconst 1, 1) := by decide +kernel
theorem dX9_areOne_27 : decode cX9_areOne 27 = .ok (.isub, 1) := by decide +kernel
theorem dX9_areOne_28 : decode cX9_areOne 28 = .ok (.iand, 1) := by decide +kernel
theorem dX9_areOne_29 : decode cX9_areOne 29 = .ok (.ifCond .ne 7, 3) := by decide +kernel
theorem dX9_areOne_32 : decode cX9_areOne 32 = .ok (.iconst 1, 1) := by decide +kernel
theorem dX9_areOne_33 : decode cX9_areOne 33 = .ok (.goto 4, 3) := by decide +kernel
theorem dX9_areOne_36 : decode cX9_areOne 36 = .ok (.iconst 0, 1) := by decide +kernel
theorem dX9_areOne_37 : decode cX9_areOne 37 = .ok (.ireturn, 1) := by decide +kernel
theorem dX9_writeTop_0 : decode cX9_writeTop 0 = .ok (.aload_n 0, 1) := by decide +kernel
theorem dX9_writeTop_1 : decode cX9_writeTop 1 = .ok (.getfield 25, 3) := by decide +kernel
theorem dX9_writeTop_4 : decode cX9_writeTop 4 = .ok (.ifCond .ne 9, 3) := by decide +kernel
theorem dX9_writeTop_7 : decode cX9_writeTop 7 = .ok (.aload_n 1, 1) := by decide +kernel
theorem dX9_writeTop_8 : decode cX9_writeTop 8 = .ok (.iconst 0, 1) := by decide +kernel
theorem dX9_writeTop_9 : decode cX9_writeTop 9 = .ok (.invokestatic 43, 3) := by decide +kernel
theorem dX9_writeTop_12 : decode cX9_writeTop 12 = .ok (.return_, 1) := by decide +kernel
theorem dX9_writeTop_13 : decode cX9_writeTop 13 = .ok (.aload_n 0, 1) := by decide +kernel
theorem dX9_writeTop_14 : decode cX9_writeTop 14 = .ok (.getfield 18, 3) := by decide +kernel
theorem dX9_writeTop_17 : decode cX9_writeTop 17 = .ok (.aload_n 0, 1) := by decide +kernel
theorem dX9_writeTop_18 : decode cX9_writeTop 18 = .ok (.getfield 25, 3) := by decide +kernel
theorem dX9_writeTop_21 : decode cX9_writeTop 21 = .ok (.iconst 1, 1) := by decide +kernel
theorem dX9_writeTop_22 : decode cX9_writeTop 22 = .ok (.isub, 1) := by decide +kernel
theorem dX9_writeTop_23 : decode cX9_writeTop 23 = .ok (.aload_n 1, 1) := by decide +kernel
theorem dX9_writeTop_24 : decode cX9_writeTop 24 = .ok (.iconst 0, 1) := by decide +kernel
theorem dX9_writeTop_25 : decode cX9_writeTop 25 = .ok (.invokestatic 29, 3) := by decide +kernel
theorem dX9_writeTop_28 : decode cX9_writeTop 28 = .ok (.aload_n 0, 1) := by decide +kernel
theorem dX9_writeTop_29 : decode cX9_writeTop 29 = .ok (.getfield 25, 3) := by decide +kernel
theorem dX9_writeTop_32 : decode cX9_writeTop 32 = .ok (.iconst 2, 1) := by decide +kernel
theorem dX9_writeTop_33 : decode cX9_writeTop 33 = .ok (.isub, 1) := by decide +kernel
theorem dX9_writeTop_34 : decode cX9_writeTop 34 = .ok (.istore_n 2, 1) := by decide +kernel
theorem dX9_writeTop_35 : decode cX9_writeTop 35 = .ok (.iload_n 2, 1) := by decide +kernel
theorem dX9_writeTop_36 : decode cX9_writeTop 36 = .ok (.ifCond .lt 25, 3) := by decide +kernel
theorem dX9_writeTop_39 : decode cX9_writeTop 39 = .ok (.aload_n 0, 1) := by decide +kernel
theorem dX9_writeTop_40 : decode cX9_writeTop 40 = .ok (.getfield 21, 3) := by decide +kernel
theorem dX9_writeTop_43 : decode cX9_writeTop 43 = .ok (.aload_n 0, 1) := by decide +kernel
theorem dX9_writeTop_44 : decode cX9_writeTop 44 = .ok (.getfield 18, 3) := by decide +kernel
theorem dX9_writeTop_47 : decode cX9_writeTop 47 = .ok (.iload_n 2, 1) := by decide +kernel
theorem dX9_writeTop_48 : decode cX9_writeTop 48 = .ok (.aload_n 1, 1) := by decide +kernel
theorem dX9_writeTop_49 : decode cX9_writeTop 49 = .ok (.iconst 0, 1) := by decide +kernel
theorem dX9_writeTop_50 : decode cX9_writeTop 50 = .ok (.aload_n 1, 1) := by decide +kernel
theorem dX9_writeTop_51 : decode cX9_writeTop 51 = .ok (.iconst 0, 1) := by decide +kernel
theorem dX9_writeTop_52 : decode cX9_writeTop 52 = .ok (.invokevirtual 37, 3) := by decide +kernel
theorem dX9_writeTop_55 : decode cX9_writeTop 55 = .ok (.iinc 2 (-1), 3) := by decide +kernel
theorem dX9_writeTop_58 : decode cX9_writeTop 58 = .ok (.goto (-23), 3) := by decide +kernel
theorem dX9_writeTop_61 : decode cX9_writeTop 61 = .ok (.return_, 1) := by decide +kernel
