theorem dX12_follow_123 : decode cX12_follow 123 = .ok (.iconst (-1), 1) := by decide +kernel
theorem dX12_follow_124 : decode cX12_follow 124 = .ok (.goto 9, 3) := by decide +kernel
theorem dX12_follow_127 : decode cX12_follow 127 = .ok (.aload_n 0, 1) := by decide +kernel
theorem dX12_follow_128 : decode cX12_follow 128 = .ok (.getfield 160, 3) := by decide +kernel
theorem dX12_follow_131 : decode cX12_follow 131 = .ok (.iload_n 3, 1) := by decide +kernel
theorem dX12_follow_132 : decode cX12_follow 132 = .ok (.iaload, 1) := by decide +kernel
theorem dX12_follow_133 : decode cX12_follow 133 = .ok (.putfield 303, 3) := by decide +kernel
theorem dX12_follow_136 : decode cX12_follow 136 = .ok (.return_, 1) := by decide +kernel
theorem dX12_held_0 : decode cX12_held 0 = .ok (.aload_n 0, 1) := by decide +kernel
theorem dX12_held_1 : decode cX12_held 1 = .ok (.iload_n 1, 1) := by decide +kernel
theorem dX12_held_2 : decode cX12_held 2 = .ok (.invokevirtual 292, 3) := by decide +kernel
theorem dX12_held_5 : decode cX12_held 5 = .ok (.ifCond .eq 12, 3) := by decide +kernel
theorem dX12_held_8 : decode cX12_held 8 = .ok (.aload_n 0, 1) := by decide +kernel
theorem dX12_held_9 : decode cX12_held 9 = .ok (.iload_n 2, 1) := by decide +kernel
theorem dX12_held_10 : decode cX12_held 10 = .ok (.iload_n 3, 1) := by decide +kernel
theorem dX12_held_11 : decode cX12_held 11 = .ok (.invokevirtual 277, 3) := by decide +kernel
theorem dX12_held_14 : decode cX12_held 14 = .ok (.ifCond .ne 5, 3) := by decide +kernel
theorem dX12_held_17 : decode cX12_held 17 = .ok (.iconst (-1), 1) := by decide +kernel
theorem dX12_held_18 : decode cX12_held 18 = .ok (.ireturn, 1) := by decide +kernel
theorem dX12_held_19 : decode cX12_held 19 = .ok (.aload_n 0, 1) := by decide +kernel
theorem dX12_held_20 : decode cX12_held 20 = .ok (.iload_n 2, 1) := by decide +kernel
theorem dX12_held_21 : decode cX12_held 21 = .ok (.iload_n 3, 1) := by decide +kernel
theorem dX12_held_22 : decode cX12_held 22 = .ok (.invokevirtual 260, 3) := by decide +kernel
theorem dX12_held_25 : decode cX12_held 25 = .ok (.aload_n 0, 1) := by decide +kernel
theorem dX12_held_26 : decode cX12_held 26 = .ok (.iload 4, 2) := by decide +kernel
theorem dX12_held_28 : decode cX12_held 28 = .ok (.invokevirtual 230, 3) := by decide +kernel
theorem dX12_held_31 : decode cX12_held 31 = .ok (.istore 5, 2) := by decide +kernel
theorem dX12_held_33 : decode cX12_held 33 = .ok (.iload 5, 2) := by decide +kernel
theorem dX12_held_35 : decode cX12_held 35 = .ok (.iconst (-1), 1) := by decide +kernel
theorem dX12_held_36 : decode cX12_held 36 = .ok (.if_icmp .ne 5, 3) := by decide +kernel
theorem dX12_held_39 : decode cX12_held 39 = .ok (.iconst (-1), 1) := by decide +kernel
theorem dX12_held_40 : decode cX12_held 40 = .ok (.ireturn, 1) := by decide +kernel
theorem dX12_held_41 : decode cX12_held 41 = .ok (.aload_n 0, 1) := by decide +kernel
theorem dX12_held_42 : decode cX12_held 42 = .ok (.iload_n 1, 1) := by decide +kernel
theorem dX12_held_43 : decode cX12_held 43 = .ok (.iconst 3, 1) := by decide +kernel
theorem dX12_held_44 : decode cX12_held 44 = .ok (.iload_n 3, 1) := by decide +kernel
theorem dX12_held_45 : decode cX12_held 45 = .ok (.iconst 0, 1) := by decide +kernel
theorem dX12_held_46 : decode cX12_held 46 = .ok (.iconst 0, 1) := by decide +kernel
theorem dX12_held_47 : decode cX12_held 47 = .ok (.invokevirtual 295, 3) := by decide +kernel
theorem dX12_held_50 : decode cX12_held 50 = .ok (.aload_n 0, 1) := by decide +kernel
theorem dX12_held_51 : decode cX12_held 51 = .ok (.getfield 39, 3) := by decide +kernel
theorem dX12_held_54 : decode cX12_held 54 = .ok (.bipush 40, 2) := by decide +kernel
theorem dX12_held_56 : decode cX12_held 56 = .ok (.iload_n 1, 1) := by decide +kernel
theorem dX12_held_57 : decode cX12_held 57 = .ok (.imul, 1) := by decide +kernel
theorem dX12_held_58 : decode cX12_held 58 = .ok (.iload 4, 2) := by decide +kernel
theorem dX12_held_60 : decode cX12_held 60 = .ok (.iastore, 1) := by decide +kernel
theorem dX12_held_61 : decode cX12_held 61 = .ok (.aload_n 0, 1) := by decide +kernel
theorem dX12_held_62 : decode cX12_held 62 = .ok (.getfield 36, 3) := by decide +kernel
theorem dX12_held_65 : decode cX12_held 65 = .ok (.bipush 8, 2) := by decide +kernel
theorem dX12_held_67 : decode cX12_held 67 = .ok (.iload_n 1, 1) := by decide +kernel
theorem dX12_held_68 : decode cX12_held 68 = .ok (.imul, 1) := by decide +kernel
theorem dX12_held_69 : decode cX12_held 69 = .ok (.iconst 5, 1) := by decide +kernel
theorem dX12_held_70 : decode cX12_held 70 = .ok (.iadd, 1) := by decide +kernel
theorem dX12_held_71 : decode cX12_held 71 = .ok (.aload_n 0, 1) := by decide +kernel
theorem dX12_held_72 : decode cX12_held 72 = .ok (.getfield 154, 3) := by decide +kernel
theorem dX12_held_75 : decode cX12_held 75 = .ok (.iload 5, 2) := by decide +kernel
theorem dX12_held_77 : decode cX12_held 77 = .ok (.iaload, 1) := by decide +kernel
theorem dX12_held_78 : decode cX12_held 78 = .ok (.iastore, 1) := by decide +kernel
theorem dX12_held_79 : decode cX12_held 79 = .ok (.aload_n 0, 1) := by decide +kernel
theorem dX12_held_80 : decode cX12_held 80 = .ok (.iload_n 1, 1) := by decide +kernel
theorem dX12_held_81 : decode cX12_held 81 = .ok (.iload 4, 2) := by decide +kernel
theorem dX12_held_83 : decode cX12_held 83 = .ok (.invokevirtual 306, 3) := by decide +kernel
theorem dX12_held_86 : decode cX12_held 86 = .ok (.aload_n 0, 1) := by decide +kernel
theorem dX12_held_87 : decode cX12_held 87 = .ok (.getfield 36, 3) := by decide +kernel
theorem dX12_held_90 : decode cX12_held 90 = .ok (.bipush 8, 2) := by decide +kernel
theorem dX12_held_92 : decode cX12_held 92 = .ok (.iload_n 1, 1) := by decide +kernel
theorem dX12_held_93 : decode cX12_held 93 = .ok (.imul, 1) := by decide +kernel
theorem dX12_held_94 : decode cX12_held 94 = .ok (.iconst 1, 1) := by decide +kernel
theorem dX12_held_95 : decode cX12_held 95 = .ok (.iadd, 1) := by decide +kernel
theorem dX12_held_96 : decode cX12_held 96 = .ok (.iaload, 1) := by decide +kernel
theorem dX12_held_97 : decode cX12_held 97 = .ok (.ireturn, 1) := by decide +kernel
theorem dX12_absent_0 : decode cX12_absent 0 = .ok (.aload_n 0, 1) := by decide +kernel
theorem dX12_absent_1 : decode cX12_absent 1 = .ok (.iload_n 1, 1) := by decide +kernel
theorem dX12_absent_2 : decode cX12_absent 2 = .ok (.invokevirtual 292, 3) := by decide +kernel
theorem dX12_absent_5 : decode cX12_absent 5 = .ok (.ifCond .eq 12, 3) := by decide +kernel
theorem dX12_absent_8 : decode cX12_absent 8 = .ok (.aload_n 0, 1) := by decide +kernel
theorem dX12_absent_9 : decode cX12_absent 9 = .ok (.iload_n 2, 1) := by decide +kernel
theorem dX12_absent_10 : decode cX12_absent 10 = .ok (.iload_n 3, 1) := by decide +kernel
theorem dX12_absent_11 : decode cX12_absent 11 = .ok (.invokevirtual 277, 3) := by decide +kernel
theorem dX12_absent_14 : decode cX12_absent 14 = .ok (.ifCond .ne 5, 3) := by decide +kernel
theorem dX12_absent_17 : decode cX12_absent 17 = .ok (.iconst (-1), 1) := by decide +kernel
theorem dX12_absent_18 : decode cX12_absent 18 = .ok (.ireturn, 1) := by decide +kernel
theorem dX12_absent_19 : decode cX12_absent 19 = .ok (.aload_n 0, 1) := by decide +kernel
theorem dX12_absent_20 : decode cX12_absent 20 = .ok (.iload_n 2, 1) := by decide +kernel
theorem dX12_absent_21 : decode cX12_absent 21 = .ok (.iload_n 3, 1) := by decide +kernel
theorem dX12_absent_22 : decode cX12_absent 22 = .ok (.invokevirtual 260, 3) := by decide +kernel
theorem dX12_absent_25 : decode cX12_absent 25 = .ok (.aload_n 0, 1) := by decide +kernel
theorem dX12_absent_26 : decode cX12_absent 26 = .ok (.iload 4, 2) := by decide +kernel
theorem dX12_absent_28 : decode cX12_absent 28 = .ok (.invokevirtual 230, 3) := by decide +kernel
theorem dX12_absent_31 : decode cX12_absent 31 = .ok (.iconst (-1), 1) := by decide +kernel
theorem dX12_absent_32 : decode cX12_absent 32 = .ok (.if_icmp .eq 5, 3) := by decide +kernel
theorem dX12_absent_35 : decode cX12_absent 35 = .ok (.iconst (-1), 1) := by decide +kernel
theorem dX12_absent_36 : decode cX12_absent 36 = .ok (.ireturn, 1) := by decide +kernel
theorem dX12_absent_37 : decode cX12_absent 37 = .ok (.aload_n 0, 1) := by decide +kernel
theorem dX12_absent_38 : decode cX12_absent 38 = .ok (.iload_n 1, 1) := by decide +kernel
theorem dX12_absent_39 : decode cX12_absent 39 = .ok (.iconst 4, 1) := by decide +kernel
theorem dX12_absent_40 : decode cX12_absent 40 = .ok (.iload_n 3, 1) := by decide +kernel
theorem dX12_absent_41 : decode cX12_absent 41 = .ok (.iconst 0, 1) := by decide +kernel
theorem dX12_absent_42 : decode cX12_absent 42 = .ok (.iconst 0, 1) := by decide +kernel
theorem dX12_absent_43 : decode cX12_absent 43 = .ok (.invokevirtual 295, 3) := by decide +kernel
theorem dX12_absent_46 : decode cX12_absent 46 = .ok (.aload_n 0, 1) := by decide +kernel
theorem dX12_absent_47 : decode cX12_absent 47 = .ok (.getfield 39, 3) := by decide +kernel
theorem dX12_absent_50 : decode cX12_absent 50 = .ok (.bipush 40, 2) := by decide +kernel
theorem dX12_absent_52 : decode cX12_absent 52 = .ok (.iload_n 1, 1) := by decide +kernel
theorem dX12_absent_53 : decode cX12_absent 53 = .ok (.imul, 1) := by decide +kernel
theorem dX12_absent_54 : decode cX12_absent 54 = .ok (.iload 4, 2) := by decide +kernel
theorem dX12_absent_56 : decode cX12_absent 56 = .ok (.iastore, 1) := by decide +kernel
theorem dX12_absent_57 : decode cX12_absent 57 = .ok (.aload_n 0, 1) := by decide +kernel
theorem dX12_absent_58 : decode cX12_absent 58 = .ok (.iload_n 1, 1) := by decide +kernel
theorem dX12_absent_59 : decode cX12_absent 59 = .ok (.iload 4, 2) := by decide +kernel
theorem dX12_absent_61 : decode cX12_absent 61 = .ok (.invokevirtual 306, 3) := by decide +kernel
theorem dX12_absent_64 : decode cX12_absent 64 = .ok (.aload_n 0, 1) := by decide +kernel
theorem dX12_absent_65 : decode cX12_absent 65 = .ok (.getfield 36, 3) := by decide +kernel
theorem dX12_absent_68 : decode cX12_absent 68 = .ok (.bipush 8, 2) := by decide +kernel
theorem dX12_absent_70 : decode cX12_absent 70 = .ok (.iload_n 1, 1) := by decide +kernel
theorem dX12_absent_71 : decode cX12_absent 71 = .ok (.imul, 1) := by decide +kernel
theorem dX12_absent_72 : decode cX12_absent 72 = .ok (.iconst 5, 1) := by decide +kernel
theorem dX12_absent_73 : decode cX12_absent 73 = .ok (.iadd, 1) := by decide +kernel
theorem dX12_absent_74 : decode cX12_absent 74 = .ok (.aload_n 0, 1) := by decide +kernel
theorem dX12_absent_75 : decode cX12_absent 75 = .ok (.getfield 303, 3) := by decide +kernel
theorem dX12_absent_78 : decode cX12_absent 78 = .ok (.iconst (-1), 1) := by decide +kernel
theorem dX12_absent_79 : decode cX12_absent 79 = .ok (.if_icmp .ne 7, 3) := by decide +kernel
theorem dX12_absent_82 : decode cX12_absent 82 = .ok (.iconst (-1), 1) := by decide +kernel
theorem dX12_absent_83 : decode cX12_absent 83 = .ok (.goto 12, 3) := by decide +kernel
theorem dX12_absent_86 : decode cX12_absent 86 = .ok (.aload_n 0, 1) := by decide +kernel
theorem dX12_absent_87 : decode cX12_absent 87 = .ok (.getfield 154, 3) := by decide +kernel
theorem dX12_absent_90 : decode cX12_absent 90 = .ok (.aload_n 0, 1) := by decide +kernel
theorem dX12_absent_91 : decode cX12_absent 91 = .ok (.getfield 303, 3) := by decide +kernel
theorem dX12_absent_94 : decode cX12_absent 94 = .ok (.iaload, 1) := by decide +kernel
theorem dX12_absent_95 : decode cX12_absent 95 = .ok (.iastore, 1) := by decide +kernel
theorem dX12_absent_96 : decode cX12_absent 96 = .ok (.aload_n 0, 1) := by decide +kernel
theorem dX12_absent_97 : decode cX12_absent 97 = .ok (.getfield 36, 3) := by decide +kernel
theorem dX12_absent_100 : decode cX12_absent 100 = .ok (.bipush 8, 2) := by decide +kernel
theorem dX12_absent_102 : decode cX12_absent 102 = .ok (.iload_n 1, 1) := by decide +kernel
theorem dX12_absent_103 : decode cX12_absent 103 = .ok (.imul, 1) := by decide +kernel
theorem dX12_absent_104 : decode cX12_absent 104 = .ok (.bipush 6, 2) := by decide +kernel
theorem dX12_absent_106 : decode cX12_absent 106 = .ok (.iadd, 1) := by decide +kernel
theorem dX12_absent_107 : decode cX12_absent 107 = .ok (.aload_n 0, 1) := by decide +kernel
theorem dX12_absent_108 : decode cX12_absent 108 = .ok (.getfield 303, 3) := by decide +kernel
theorem dX12_absent_111 : decode cX12_absent 111 = .ok (.iconst (-1), 1) := by decide +kernel
theorem dX12_absent_112 : decode cX12_absent 112 = .ok (.if_icmp .ne 7, 3) := by decide +kernel
theorem dX12_absent_115 : decode cX12_absent 115 = .ok (.iconst 0, 1) := by decide +kernel
theorem dX12_absent_116 : decode cX12_absent 116 = .ok (.goto 12, 3) := by decide +kernel
theorem dX12_absent_119 : decode cX12_absent 119 = .ok (.aload_n 0, 1) := by decide +kernel
theorem dX12_absent_120 : decode cX12_absent 120 = .ok (.getfield 151, 3) := by decide +kernel
theorem dX12_absent_123 : decode cX12_absent 123 = .ok (.aload_n 0, 1) := by decide +kernel
theorem dX12_absent_124 : decode cX12_absent 124 = .ok (.getfield 303, 3) := by decide +kernel
theorem dX12_absent_127 : decode cX12_absent 127 = .ok (.iaload, 1) := by decide +kernel
theorem dX12_absent_128 : decode cX12_absent 128 = .ok (.iastore, 1) := by decide +kernel
theorem dX12_absent_129 : decode cX12_absent 129 = .ok (.aload_n 0, 1) := by decide +kernel
theorem dX12_absent_130 : decode cX12_absent 130 = .ok (.getfield 36, 3) := by decide +kernel
theorem dX12_absent_133 : decode cX12_absent 133 = .ok (.bipush 8, 2) := by decide +kernel
theorem dX12_absent_135 : decode cX12_absent 135 = .ok (.iload_n 1, 1) := by decide +kernel
theorem dX12_absent_136 : decode cX12_absent 136 = .ok (.imul, 1) := by decide +kernel
theorem dX12_absent_137 : decode cX12_absent 137 = .ok (.bipush 7, 2) := by decide +kernel
theorem dX12_absent_139 : decode cX12_absent 139 = .ok (.iadd, 1) := by decide +kernel
theorem dX12_absent_140 : decode cX12_absent 140 = .ok (.aload_n 0, 1) := by decide +kernel
theorem dX12_absent_141 : decode cX12_absent 141 = .ok (.getfield 303, 3) := by decide +kernel
theorem dX12_absent_144 : decode cX12_absent 144 = .ok (.iconst (-1), 1) := by decide +kernel
theorem dX12_absent_145 : decode cX12_absent 145 = .ok (.if_icmp .ne 7, 3) := by decide +kernel
theorem dX12_absent_148 : decode cX12_absent 148 = .ok (.iconst 0, 1) := by decide +kernel
theorem dX12_absent_149 : decode cX12_absent 149 = .ok (.goto 4, 3) := by decide +kernel
theorem dX12_absent_152 : decode cX12_absent 152 = .ok (.iconst 1, 1) := by decide +kernel
theorem dX12_absent_153 : decode cX12_absent 153 = .ok (.iastore, 1) := by decide +kernel
theorem dX12_absent_154 : decode cX12_absent 154 = .ok (.aload_n 0, 1) := by decide +kernel
theorem dX12_absent_155 : decode cX12_absent 155 = .ok (.getfield 36, 3) := by decide +kernel
theorem dX12_absent_158 : decode cX12_absent 158 = .ok (.bipush 8, 2) := by decide +kernel
theorem dX12_absent_160 : decode cX12_absent 160 = .ok (.iload_n 1, 1) := by decide +kernel
theorem dX12_absent_161 : decode cX12_absent 161 = .ok (.imul, 1) := by decide +kernel
theorem dX12_absent_162 : decode cX12_absent 162 = .ok (.iconst 1, 1) := by decide +kernel
theorem dX12_absent_163 : decode cX12_absent 163 = .ok (.iadd, 1) := by decide +kernel
theorem dX12_absent_164 : decode cX12_absent 164 = .ok (.iaload, 1) := by decide +kernel
theorem dX12_absent_165 : decode cX12_absent 165 = .ok (.ireturn, 1) := by decide +kernel
theorem dX12_span_0 : decode cX12_span 0 = .ok (.aload_n 0, 1) := by decide +kernel
theorem dX12_span_1 : decode cX12_span 1 = .ok (.iload_n 1, 1) := by decide +kernel
theorem dX12_span_2 : decode cX12_span 2 = .ok (.invokevirtual 292, 3) := by decide +kernel
theorem dX12_span_5 : decode cX12_span 5 = .ok (.ifCond .eq 40, 3) := by decide +kernel
theorem dX12_span_8 : decode cX12_span 8 = .ok (.aload_n 0, 1) := by decide +kernel
theorem dX12_span_9 : decode cX12_span 9 = .ok (.iload_n 2, 1) := by decide +kernel
theorem dX12_span_10 : decode cX12_span 10 = .ok (.iload_n 3, 1) := by decide +kernel
theorem dX12_span_11 : decode cX12_span 11 = .ok (.invokevirtual 277, 3) := by decide +kernel
theorem dX12_span_14 : decode cX12_span 14 = .ok (.ifCond .eq 31, 3) := by decide +kernel
theorem dX12_span_17 : decode cX12_span 17 = .ok (.iload 4, 2) := by decide +kernel
theorem dX12_span_19 : decode cX12_span 19 = .ok (.ifCond .lt 26, 3) := by decide +kernel
theorem dX12_span_22 : decode cX12_span 22 = .ok (.iload 4, 2) := by decide +kernel
theorem dX12_span_24 : decode cX12_span 24 = .ok (.iload 5, 2) := by decide +kernel
theorem dX12_span_26 : decode cX12_span 26 = .ok (.if_icmp .gt 19, 3) := by decide +kernel
theorem dX12_span_29 : decode cX12_span 29 = .ok (.iload 5, 2) := by decide +kernel
theorem dX12_span_31 : decode cX12_span 31 = .ok (.iload_n 3, 1) := by decide +kernel
theorem dX12_span_32 : decode cX12_span 32 = .ok (.if_icmp .gt 13, 3) := by decide +kernel
theorem dX12_span_35 : decode cX12_span 35 = .ok (.iload 5, 2) := by decide +kernel
theorem dX12_span_37 : decode cX12_span 37 = .ok (.iload 4, 2) := by decide +kernel
theorem dX12_span_39 : decode cX12_span 39 = .ok (.isub, 1) := by decide +kernel
theorem dX12_span_40 : decode cX12_span 40 = .ok (.bipush 40, 2) := by decide +kernel
theorem dX12_span_42 : decode cX12_span 42 = .ok (.if_icmp .le 5, 3) := by decide +kernel
theorem dX12_span_45 : decode cX12_span 45 = .ok (.iconst (-1), 1) := by decide +kernel
theorem dX12_span_46 : decode cX12_span 46 = .ok (.ireturn, 1) := by decide +kernel
theorem dX12_span_47 : decode cX12_span 47 = .ok (.iload 4, 2) := by decide +kernel
theorem dX12_span_49 : decode cX12_span 49 = .ok (.istore 6, 2) := by decide +kernel
theorem dX12_span_51 : decode cX12_span 51 = .ok (.iload 6, 2) := by decide +kernel
theorem dX12_span_53 : decode cX12_span 53 = .ok (.iload 5, 2) := by decide +kernel
theorem dX12_span_55 : decode cX12_span 55 = .ok (.if_icmp .ge 27, 3) := by decide +kernel
theorem dX12_span_58 : decode cX12_span 58 = .ok (.aload_n 0, 1) := by decide +kernel
theorem dX12_span_59 : decode cX12_span 59 = .ok (.getfield 20, 3) := by decide +kernel
theorem dX12_span_62 : decode cX12_span 62 = .ok (.sipush 400, 3) := by decide +kernel
theorem dX12_span_65 : decode cX12_span 65 = .ok (.iload_n 2, 1) := by decide +kernel
theorem dX12_span_66 : decode cX12_span 66 = .ok (.imul, 1) := by decide +kernel
theorem dX12_span_67 : decode cX12_span 67 = .ok (.iload 6, 2) := by decide +kernel
theorem dX12_span_69 : decode cX12_span 69 = .ok (.iadd, 1) := by decide +kernel
theorem dX12_span_70 : decode cX12_span 70 = .ok (.baload, 1) := by decide +kernel
theorem dX12_span_71 : decode cX12_span 71 = .ok (.ifCond .eq 5, 3) := by decide +kernel
theorem dX12_span_74 : decode cX12_span 74 = .ok (.iconst (-1), 1) := by decide +kernel
theorem dX12_span_75 : decode cX12_span 75 = .ok (.ireturn, 1) := by decide +kernel
theorem dX12_span_76 : decode cX12_span 76 = .ok (.iinc 6 1, 3) := by decide +kernel
theorem dX12_span_79 : decode cX12_span 79 = .ok (.goto (-28), 3) := by decide +kernel
theorem dX12_span_82 : decode cX12_span 82 = .ok (.aload_n 0, 1) := by decide +kernel
theorem dX12_span_83 : decode cX12_span 83 = .ok (.iload_n 1, 1) := by decide +kernel
theorem dX12_span_84 : decode cX12_span 84 = .ok (.iconst 5, 1) := by decide +kernel
theorem dX12_span_85 : decode cX12_span 85 = .ok (.iload_n 3, 1) := by decide +kernel
theorem dX12_span_86 : decode cX12_span 86 = .ok (.iload 4, 2) := by decide +kernel
theorem dX12_span_88 : decode cX12_span 88 = .ok (.iload 5, 2) := by decide +kernel
theorem dX12_span_90 : decode cX12_span 90 = .ok (.invokevirtual 295, 3) := by decide +kernel
theorem dX12_span_93 : decode cX12_span 93 = .ok (.iload 4, 2) := by decide +kernel
theorem dX12_span_95 : decode cX12_span 95 = .ok (.istore 6, 2) := by decide +kernel
theorem dX12_span_97 : decode cX12_span 97 = .ok (.iload 6, 2) := by decide +kernel
theorem dX12_span_99 : decode cX12_span 99 = .ok (.iload 5, 2) := by decide +kernel
theorem dX12_span_101 : decode cX12_span 101 = .ok (.if_icmp .ge 65, 3) := by decide +kernel
theorem dX12_span_104 : decode cX12_span 104 = .ok (.aload_n 0, 1) := by decide +kernel
theorem dX12_span_105 : decode cX12_span 105 = .ok (.getfield 39, 3) := by decide +kernel
theorem dX12_span_108 : decode cX12_span 108 = .ok (.bipush 40, 2) := by decide +kernel
theorem dX12_span_110 : decode cX12_span 110 = .ok (.iload_n 1, 1) := by decide +kernel
theorem dX12_span_111 : decode cX12_span 111 = .ok (.imul, 1) := by decide +kernel
theorem dX12_span_112 : decode cX12_span 112 = .ok (.iload 6, 2) := by decide +kernel
theorem dX12_span_114 : decode cX12_span 114 = .ok (.iadd, 1) := by decide +kernel
theorem dX12_span_115 : decode cX12_span 115 = .ok (.iload 4, 2) := by decide +kernel
theorem dX12_span_117 : decode cX12_span 117 = .ok (.isub, 1) := by decide +kernel
theorem dX12_span_118 : decode cX12_span 118 = .ok (.aload_n 0, 1) := by decide +kernel
theorem dX12_span_119 : decode cX12_span 119 = .ok (.getfield 13, 3) := by decide +kernel
theorem dX12_span_122 : decode cX12_span 122 = .ok (.sipush 400, 3) := by decide +kernel
theorem dX12_span_125 : decode cX12_span 125 = .ok (.iload_n 2, 1) := by decide +kernel
theorem dX12_span_126 : decode cX12_span 126 = .ok (.imul, 1) := by decide +kernel
theorem dX12_span_127 : decode cX12_span 127 = .ok (.iload 6, 2) := by decide +kernel
theorem dX12_span_129 : decode cX12_span 129 = .ok (.iadd, 1) := by decide +kernel
theorem dX12_span_130 : decode cX12_span 130 = .ok (.iaload, 1) := by decide +kernel
theorem dX12_span_131 : decode cX12_span 131 = .ok (.iastore, 1) := by decide +kernel
theorem dX12_span_132 : decode cX12_span 132 = .ok (.aload_n 0, 1) := by decide +kernel
theorem dX12_span_133 : decode cX12_span 133 = .ok (.getfield 42, 3) := by decide +kernel
theorem dX12_span_136 : decode cX12_span 136 = .ok (.bipush 40, 2) := by decide +kernel
theorem dX12_span_138 : decode cX12_span 138 = .ok (.iload_n 1, 1) := by decide +kernel
theorem dX12_span_139 : decode cX12_span 139 = .ok (.imul, 1) := by decide +kernel
theorem dX12_span_140 : decode cX12_span 140 = .ok (.iload 6, 2) := by decide +kernel
theorem dX12_span_142 : decode cX12_span 142 = .ok (.iadd, 1) := by decide +kernel
theorem dX12_span_143 : decode cX12_span 143 = .ok (.iload 4, 2) := by decide +kernel
theorem dX12_span_145 : decode cX12_span 145 = .ok (.isub, 1) := by decide +kernel
theorem dX12_span_146 : decode cX12_span 146 = .ok (.aload_n 0, 1) := by decide +kernel
theorem dX12_span_147 : decode cX12_span 147 = .ok (.getfield 16, 3) := by decide +kernel
theorem dX12_span_150 : decode cX12_span 150 = .ok (.sipush 400, 3) := by decide +kernel
theorem dX12_span_153 : decode cX12_span 153 = .ok (.iload_n 2, 1) := by decide +kernel
theorem dX12_span_154 : decode cX12_span 154 = .ok (.imul, 1) := by decide +kernel
theorem dX12_span_155 : decode cX12_span 155 = .ok (.iload 6, 2) := by decide +kernel
theorem dX12_span_157 : decode cX12_span 157 = .ok (.iadd, 1) := by decide +kernel
theorem dX12_span_158 : decode cX12_span 158 = .ok (.laload, 1) := by decide +kernel
theorem dX12_span_159 : decode cX12_span 159 = .ok (.lastore, 1) := by decide +kernel
theorem dX12_span_160 : decode cX12_span 160 = .ok (.iinc 6 1, 3) := by decide +kernel
theorem dX12_span_163 : decode cX12_span 163 = .ok (.goto (-66), 3) := by decide +kernel
theorem dX12_span_166 : decode cX12_span 166 = .ok (.aload_n 0, 1) := by decide +kernel
theorem dX12_span_167 : decode cX12_span 167 = .ok (.iload_n 1, 1) := by decide +kernel
theorem dX12_span_168 : decode cX12_span 168 = .ok (.iload_n 2, 1) := by decide +kernel
theorem dX12_span_169 : decode cX12_span 169 = .ok (.iconst 0, 1) := by decide +kernel
theorem dX12_span_170 : decode cX12_span 170 = .ok (.iload 4, 2) := by decide +kernel
theorem dX12_span_172 : decode cX12_span 172 = .ok (.invokevirtual 299, 3) := by decide +kernel
theorem dX12_span_175 : decode cX12_span 175 = .ok (.aload_n 0, 1) := by decide +kernel
theorem dX12_span_176 : decode cX12_span 176 = .ok (.iload_n 1, 1) := by decide +kernel
theorem dX12_span_177 : decode cX12_span 177 = .ok (.iload_n 2, 1) := by decide +kernel
theorem dX12_span_178 : decode cX12_span 178 = .ok (.iload 5, 2) := by decide +kernel
theorem dX12_span_180 : decode cX12_span 180 = .ok (.iload_n 3, 1) := by decide +kernel
theorem dX12_span_181 : decode cX12_span 181 = .ok (.invokevirtual 299, 3) := by decide +kernel
theorem dX12_span_184 : decode cX12_span 184 = .ok (.aload_n 0, 1) := by decide +kernel
theorem dX12_span_185 : decode cX12_span 185 = .ok (.getfield 36, 3) := by decide +kernel
theorem dX12_span_188 : decode cX12_span 188 = .ok (.bipush 8, 2) := by decide +kernel
theorem dX12_span_190 : decode cX12_span 190 = .ok (.iload_n 1, 1) := by decide +kernel
theorem dX12_span_191 : decode cX12_span 191 = .ok (.imul, 1) := by decide +kernel
theorem dX12_span_192 : decode cX12_span 192 = .ok (.iconst 1, 1) := by decide +kernel
theorem dX12_span_193 : decode cX12_span 193 = .ok (.iadd, 1) := by decide +kernel
theorem dX12_span_194 : decode cX12_span 194 = .ok (.iaload, 1) := by decide +kernel
theorem dX12_span_195 : decode cX12_span 195 = .ok (.ireturn, 1) := by decide +kernel
theorem dX12_drop_0 : decode cX12_drop 0 = .ok (.aload_n 0, 1) := by decide +kernel
theorem dX12_drop_1 : decode cX12_drop 1 = .ok (.iload_n 1, 1) := by decide +kernel
theorem dX12_drop_2 : decode cX12_drop 2 = .ok (.invokevirtual 292, 3) := by decide +kernel
theorem dX12_drop_5 : decode cX12_drop 5 = .ok (.ifCond .ne 5, 3) := by decide +kernel
theorem dX12_drop_8 : decode cX12_drop 8 = .ok (.iconst (-1), 1) := by decide +kernel
theorem dX12_drop_9 : decode cX12_drop 9 = .ok (.ireturn, 1) := by decide +kernel
theorem dX12_drop_10 : decode cX12_drop 10 = .ok (.aload_n 0, 1) := by decide +kernel
theorem dX12_drop_11 : decode cX12_drop 11 = .ok (.getfield 36, 3) := by decide +kernel
theorem dX12_drop_14 : decode cX12_drop 14 = .ok (.bipush 8, 2) := by decide +kernel
theorem dX12_drop_16 : decode cX12_drop 16 = .ok (.iload_n 1, 1) := by decide +kernel
theorem dX12_drop_17 : decode cX12_drop 17 = .ok (.imul, 1) := by decide +kernel
theorem dX12_drop_18 : decode cX12_drop 18 = .ok (.iaload, 1) := by decide +kernel
theorem dX12_drop_19 : decode cX12_drop 19 = .ok (.istore_n 2, 1) := by decide +kernel
theorem dX12_drop_20 : decode cX12_drop 20 = .ok (.aload_n 0, 1) := by decide +kernel
theorem dX12_drop_21 : decode cX12_drop 21 = .ok (.iload_n 1, 1) := by decide +kernel
theorem dX12_drop_22 : decode cX12_drop 22 = .ok (.iconst 0, 1) := by decide +kernel
theorem dX12_drop_23 : decode cX12_drop 23 = .ok (.iconst 0, 1) := by decide +kernel
theorem dX12_drop_24 : decode cX12_drop 24 = .ok (.iconst 0, 1) := by decide +kernel
theorem dX12_drop_25 : decode cX12_drop 25 = .ok (.iconst 0, 1) := by decide +kernel
theorem dX12_drop_26 : decode cX12_drop 26 = .ok (.invokevirtual 295, 3) := by decide +kernel
theorem dX12_drop_29 : decode cX12_drop 29 = .ok (.iload_n 2, 1) := by decide +kernel
theorem dX12_drop_30 : decode cX12_drop 30 = .ok (.ireturn, 1) := by decide +kernel
theorem dX12_proof_0 : decode cX12_proof 0 = .ok (.aload_n 0, 1) := by decide +kernel
theorem dX12_proof_1 : decode cX12_proof 1 = .ok (.iload_n 1, 1) := by decide +kernel
theorem dX12_proof_2 : decode cX12_proof 2 = .ok (.invokevirtual 292, 3) := by decide +kernel
theorem dX12_proof_5 : decode cX12_proof 5 = .ok (.ifCond .ne 5, 3) := by decide +kernel
theorem dX12_proof_8 : decode cX12_proof 8 = .ok (.iconst (-1), 1) := by decide +kernel
theorem dX12_proof_9 : decode cX12_proof 9 = .ok (.ireturn, 1) := by decide +kernel
theorem dX12_proof_10 : decode cX12_proof 10 = .ok (.aload_n 0, 1) := by decide +kernel
theorem dX12_proof_11 : decode cX12_proof 11 = .ok (.getfield 36, 3) := by decide +kernel
theorem dX12_proof_14 : decode cX12_proof 14 = .ok (.bipush 8, 2) := by decide +kernel
theorem dX12_proof_16 : decode cX12_proof 16 = .ok (.iload_n 1, 1) := by decide +kernel
theorem dX12_proof_17 : decode cX12_proof 17 = .ok (.imul, 1) := by decide +kernel
theorem dX12_proof_18 : decode cX12_proof 18 = .ok (.iaload, 1) := by decide +kernel
theorem dX12_proof_19 : decode cX12_proof 19 = .ok (.istore_n 3, 1) := by decide +kernel
theorem dX12_proof_20 : decode cX12_proof 20 = .ok (.iload_n 2, 1) := by decide +kernel
theorem dX12_proof_21 : decode cX12_proof 21 = .ok (.tableswitch 145 0 7 #[47, 49, 49, 49, 49, 61, 120, 132], 47) := by decide +kernel
theorem dX12_proof_68 : decode cX12_proof 68 = .ok (.iload_n 3, 1) := by decide +kernel
theorem dX12_proof_69 : decode cX12_proof 69 = .ok (.ireturn, 1) := by decide +kernel
theorem dX12_proof_70 : decode cX12_proof 70 = .ok (.aload_n 0, 1) := by decide +kernel
theorem dX12_proof_71 : decode cX12_proof 71 = .ok (.getfield 36, 3) := by decide +kernel
theorem dX12_proof_74 : decode cX12_proof 74 = .ok (.bipush 8, 2) := by decide +kernel
theorem dX12_proof_76 : decode cX12_proof 76 = .ok (.iload_n 1, 1) := by decide +kernel
theorem dX12_proof_77 : decode cX12_proof 77 = .ok (.imul, 1) := by decide +kernel
theorem dX12_proof_78 : decode cX12_proof 78 = .ok (.iload_n 2, 1) := by decide +kernel
theorem dX12_proof_79 : decode cX12_proof 79 = .ok (.iadd, 1) := by decide +kernel
theorem dX12_proof_80 : decode cX12_proof 80 = .ok (.iaload, 1) := by decide +kernel
theorem dX12_proof_81 : decode cX12_proof 81 = .ok (.ireturn, 1) := by decide +kernel
theorem dX12_proof_82 : decode cX12_proof 82 = .ok (.iload_n 3, 1) := by decide +kernel
theorem dX12_proof_83 : decode cX12_proof 83 = .ok (.iconst 1, 1) := by decide +kernel
theorem dX12_proof_84 : decode cX12_proof 84 = .ok (.if_icmp .eq 43, 3) := by decide +kernel
theorem dX12_proof_87 : decode cX12_proof 87 = .ok (.iload_n 3, 1) := by decide +kernel
theorem dX12_proof_88 : decode cX12_proof 88 = .ok (.iconst 3, 1) := by decide +kernel
theorem dX12_proof_89 : decode cX12_proof 89 = .ok (.if_icmp .eq 38, 3) := by decide +kernel
theorem dX12_proof_92 : decode cX12_proof 92 = .ok (.iload_n 3, 1) := by decide +kernel
theorem dX12_proof_93 : decode cX12_proof 93 = .ok (.iconst 4, 1) := by decide +kernel
theorem dX12_proof_94 : decode cX12_proof 94 = .ok (.if_icmp .eq 33, 3) := by decide +kernel
theorem dX12_proof_97 : decode cX12_proof 97 = .ok (.iload_n 3, 1) := by decide +kernel
theorem dX12_proof_98 : decode cX12_proof 98 = .ok (.iconst 5, 1) := by decide +kernel
theorem dX12_proof_99 : decode cX12_proof 99 = .ok (.if_icmp .ne 40, 3) := by decide +kernel
theorem dX12_proof_102 : decode cX12_proof 102 = .ok (.aload_n 0, 1) := by decide +kernel
theorem dX12_proof_103 : decode cX12_proof 103 = .ok (.getfield 36, 3) := by decide +kernel
theorem dX12_proof_106 : decode cX12_proof 106 = .ok (.bipush 8, 2) := by decide +kernel
theorem dX12_proof_108 : decode cX12_proof 108 = .ok (.iload_n 1, 1) := by decide +kernel
theorem dX12_proof_109 : decode cX12_proof 109 = .ok (.imul, 1) := by decide +kernel
theorem dX12_proof_110 : decode cX12_proof 110 = .ok (.iconst 4, 1) := by decide +kernel
theorem dX12_proof_111 : decode cX12_proof 111 = .ok (.iadd, 1) := by decide +kernel
theorem dX12_proof_112 : decode cX12_proof 112 = .ok (.iaload, 1) := by decide +kernel
theorem dX12_proof_113 : decode cX12_proof 113 = .ok (.aload_n 0, 1) := by decide +kernel
theorem dX12_proof_114 : decode cX12_proof 114 = .ok (.getfield 36, 3) := by decide +kernel
theorem dX12_proof_117 : decode cX12_proof 117 = .ok (.bipush 8, 2) := by decide +kernel
theorem dX12_proof_119 : decode cX12_proof 119 = .ok (.iload_n 1, 1) := by decide +kernel
theorem dX12_proof_120 : decode cX12_proof 120 = .ok (.imul, 1) := by decide +kernel
theorem dX12_proof_121 : decode cX12_proof 121 = .ok (.iconst 3, 1) := by decide +kernel
theorem dX12_proof_122 : decode cX12_proof 122 = .ok (.iadd, 1) := by decide +kernel
theorem dX12_proof_123 : decode cX12_proof 123 = .ok (.iaload, 1) := by decide +kernel
theorem dX12_proof_124 : decode cX12_proof 124 = .ok (.if_icmp .le 15, 3) := by decide +kernel
theorem dX12_proof_127 : decode cX12_proof 127 = .ok (.aload_n 0, 1) := by decide +kernel
theorem dX12_proof_128 : decode cX12_proof 128 = .ok (.getfield 39, 3) := by decide +kernel
theorem dX12_proof_131 : decode cX12_proof 131 = .ok (.bipush 40, 2) := by decide +kernel
theorem dX12_proof_133 : decode cX12_proof 133 = .ok (.iload_n 1, 1) := by decide +kernel
theorem dX12_proof_134 : decode cX12_proof 134 = .ok (.imul, 1) := by decide +kernel
theorem dX12_proof_135 : decode cX12_proof 135 = .ok (.iaload, 1) := by decide +kernel
theorem dX12_proof_136 : decode cX12_proof 136 = .ok (.goto 4, 3) := by decide +kernel
theorem dX12_proof_139 : decode cX12_proof 139 = .ok (.iconst 0, 1) := by decide +kernel
theorem dX12_proof_140 : decode cX12_proof 140 = .ok (.ireturn, 1) := by decide +kernel
theorem dX12_proof_141 : decode cX12_proof 141 = .ok (.aload_n 0, 1) := by decide +kernel
theorem dX12_proof_142 : decode cX12_proof 142 = .ok (.getfield 36, 3) := by decide +kernel
theorem dX12_proof_145 : decode cX12_proof 145 = .ok (.bipush 8, 2) := by decide +kernel
theorem dX12_proof_147 : decode cX12_proof 147 = .ok (.iload_n 1, 1) := by decide +kernel
theorem dX12_proof_148 : decode cX12_proof 148 = .ok (.imul, 1) := by decide +kernel
theorem dX12_proof_149 : decode cX12_proof 149 = .ok (.iconst 5, 1) := by decide +kernel
theorem dX12_proof_150 : decode cX12_proof 150 = .ok (.iadd, 1) := by decide +kernel
theorem dX12_proof_151 : decode cX12_proof 151 = .ok (.iaload, 1) := by decide +kernel
theorem dX12_proof_152 : decode cX12_proof 152 = .ok (.ireturn, 1) := by decide +kernel
theorem dX12_proof_153 : decode cX12_proof 153 = .ok (.aload_n 0, 1) := by decide +kernel
theorem dX12_proof_154 : decode cX12_proof 154 = .ok (.getfield 36, 3) := by decide +kernel
theorem dX12_proof_157 : decode cX12_proof 157 = .ok (.bipush 8, 2) := by decide +kernel
theorem dX12_proof_159 : decode cX12_proof 159 = .ok (.iload_n 1, 1) := by decide +kernel
theorem dX12_proof_160 : decode cX12_proof 160 = .ok (.imul, 1) := by decide +kernel
theorem dX12_proof_161 : decode cX12_proof 161 = .ok (.bipush 6, 2) := by decide +kernel
theorem dX12_proof_163 : decode cX12_proof 163 = .ok (.iadd, 1) := by decide +kernel
theorem dX12_proof_164 : decode cX12_proof 164 = .ok (.iaload, 1) := by decide +kernel
theorem dX12_proof_165 : decode cX12_proof 165 = .ok (.ireturn, 1) := by decide +kernel
theorem dX12_proof_166 : decode cX12_proof 166 = .ok (.iconst (-1), 1) := by decide +kernel
theorem dX12_proof_167 : decode cX12_proof 167 = .ok (.ireturn, 1) := by decide +kernel
theorem dX12_isStep_0 : decode cX12_isStep 0 = .ok (.aload_n 0, 1) := by decide +kernel
theorem dX12_isStep_1 : decode cX12_isStep 1 = .ok (.iload_n 1, 1) := by decide +kernel
theorem dX12_isStep_2 : decode cX12_isStep 2 = .ok (.invokevirtual 292, 3) := by decide +kernel
theorem dX12_isStep_5 : decode cX12_isStep 5 = .ok (.ifCond .eq 36, 3) := by decide +kernel
theorem dX12_isStep_8 : decode cX12_isStep 8 = .ok (.iload_n 2, 1) := by decide +kernel
theorem dX12_isStep_9 : decode cX12_isStep 9 = .ok (.ifCond .lt 32, 3) := by decide +kernel
theorem dX12_isStep_12 : decode cX12_isStep 12 = .ok (.iload_n 2, 1) := by decide +kernel
theorem dX12_isStep_13 : decode cX12_isStep 13 = .ok (.aload_n 0, 1) := by decide +kernel
theorem dX12_isStep_14 : decode cX12_isStep 14 = .ok (.getfield 36, 3) := by decide +kernel
theorem dX12_isStep_17 : decode cX12_isStep 17 = .ok (.bipush 8, 2) := by decide +kernel
theorem dX12_isStep_19 : decode cX12_isStep 19 = .ok (.iload_n 1, 1) := by decide +kernel
theorem dX12_isStep_20 : decode cX12_isStep 20 = .ok (.imul, 1) := by decide +kernel
theorem dX12_isStep_21 : decode cX12_isStep 21 = .ok (.iconst 1, 1) := by decide +kernel
theorem dX12_isStep_22 : decode cX12_isStep 22 = .ok (.iadd, 1) := by decide +kernel
theorem dX12_isStep_23 : decode cX12_isStep 23 = .ok (.iaload, 1) := by decide +kernel
theorem dX12_isStep_24 : decode cX12_isStep 24 = .ok (.if_icmp .ge 17, 3) := by decide +kernel
theorem dX12_isStep_27 : decode cX12_isStep 27 = .ok (.iload_n 3, 1) := by decide +kernel
theorem dX12_isStep_28 : decode cX12_isStep 28 = .ok (.ifCond .lt 13, 3) := by decide +kernel
theorem dX12_isStep_31 : decode cX12_isStep 31 = .ok (.iload_n 3, 1) := by decide +kernel
theorem dX12_isStep_32 : decode cX12_isStep 32 = .ok (.bipush 8, 2) := by decide +kernel
theorem dX12_isStep_34 : decode cX12_isStep 34 = .ok (.if_icmp .ge 7, 3) := by decide +kernel
theorem dX12_isStep_37 : decode cX12_isStep 37 = .ok (.iconst 1, 1) := by decide +kernel
theorem dX12_isStep_38 : decode cX12_isStep 38 = .ok (.goto 4, 3) := by decide +kernel
theorem dX12_isStep_41 : decode cX12_isStep 41 = .ok (.iconst 0, 1) := by decide +kernel
theorem dX12_isStep_42 : decode cX12_isStep 42 = .ok (.ireturn, 1) := by decide +kernel
theorem dX12_step__0 : decode cX12_step_ 0 = .ok (.aload_n 0, 1) := by decide +kernel
theorem dX12_step__1 : decode cX12_step_ 1 = .ok (.iload_n 1, 1) := by decide +kernel
theorem dX12_step__2 : decode cX12_step_ 2 = .ok (.iload_n 2, 1) := by decide +kernel
theorem dX12_step__3 : decode cX12_step_ 3 = .ok (.iload_n 3, 1) := by decide +kernel
theorem dX12_step__4 : decode cX12_step_ 4 = .ok (.invokevirtual 309, 3) := by decide +kernel
theorem dX12_step__7 : decode cX12_step_ 7 = .ok (.ifCond .eq 23, 3) := by decide +kernel
theorem dX12_step__10 : decode cX12_step_ 10 = .ok (.aload_n 0, 1) := by decide +kernel
theorem dX12_step__11 : decode cX12_step_ 11 = .ok (.getfield 46, 3) := by decide +kernel
theorem dX12_step__14 : decode cX12_step_ 14 = .ok (.bipush 8, 2) := by decide +kernel
theorem dX12_step__16 : decode cX12_step_ 16 = .ok (.sipush 256, 3) := by decide +kernel
theorem dX12_step__19 : decode cX12_step_ 19 = .ok (.iload_n 1, 1) := by decide +kernel
theorem dX12_step__20 : decode cX12_step_ 20 = .ok (.imul, 1) := by decide +kernel
theorem dX12_step__21 : decode cX12_step_ 21 = .ok (.iload_n 2, 1) := by decide +kernel
theorem dX12_step__22 : decode cX12_step_ 22 = .ok (.iadd, 1) := by decide +kernel
theorem dX12_step__23 : decode cX12_step_ 23 = .ok (.imul, 1) := by decide +kernel
theorem dX12_step__24 : decode cX12_step_ 24 = .ok (.iload_n 3, 1) := by decide +kernel
theorem dX12_step__25 : decode cX12_step_ 25 = .ok (.iadd, 1) := by decide +kernel
theorem dX12_step__26 : decode cX12_step_ 26 = .ok (.iaload, 1) := by decide +kernel
theorem dX12_step__27 : decode cX12_step_ 27 = .ok (.goto 4, 3) := by decide +kernel
theorem dX12_step__30 : decode cX12_step_ 30 = .ok (.iconst 0, 1) := by decide +kernel
theorem dX12_step__31 : decode cX12_step_ 31 = .ok (.ireturn, 1) := by decide +kernel
theorem dX12_bend_0 : decode cX12_bend 0 = .ok (.aload_n 0, 1) := by decide +kernel
theorem dX12_bend_1 : decode cX12_bend 1 = .ok (.iload_n 1, 1) := by decide +kernel
theorem dX12_bend_2 : decode cX12_bend 2 = .ok (.iload_n 2, 1) := by decide +kernel
theorem dX12_bend_3 : decode cX12_bend 3 = .ok (.iload_n 3, 1) := by decide +kernel
theorem dX12_bend_4 : decode cX12_bend 4 = .ok (.invokevirtual 309, 3) := by decide +kernel
theorem dX12_bend_7 : decode cX12_bend 7 = .ok (.ifCond .ne 5, 3) := by decide +kernel
theorem dX12_bend_10 : decode cX12_bend 10 = .ok (.iconst 0, 1) := by decide +kernel
theorem dX12_bend_11 : decode cX12_bend 11 = .ok (.ireturn, 1) := by decide +kernel
theorem dX12_bend_12 : decode cX12_bend 12 = .ok (.aload_n 0, 1) := by decide +kernel
theorem dX12_bend_13 : decode cX12_bend 13 = .ok (.getfield 46, 3) := by decide +kernel
theorem dX12_bend_16 : decode cX12_bend 16 = .ok (.bipush 8, 2) := by decide +kernel
theorem dX12_bend_18 : decode cX12_bend 18 = .ok (.sipush 256, 3) := by decide +kernel
theorem dX12_bend_21 : decode cX12_bend 21 = .ok (.iload_n 1, 1) := by decide +kernel
theorem dX12_bend_22 : decode cX12_bend 22 = .ok (.imul, 1) := by decide +kernel
theorem dX12_bend_23 : decode cX12_bend 23 = .ok (.iload_n 2, 1) := by decide +kernel
theorem dX12_bend_24 : decode cX12_bend 24 = .ok (.iadd, 1) := by decide +kernel
theorem dX12_bend_25 : decode cX12_bend 25 = .ok (.imul, 1) := by decide +kernel
theorem dX12_bend_26 : decode cX12_bend 26 = .ok (.iload_n 3, 1) := by decide +kernel
theorem dX12_bend_27 : decode cX12_bend 27 = .ok (.iadd, 1) := by decide +kernel
theorem dX12_bend_28 : decode cX12_bend 28 = .ok (.dup2, 1) := by decide +kernel
theorem dX12_bend_29 : decode cX12_bend 29 = .ok (.iaload, 1) := by decide +kernel
theorem dX12_bend_30 : decode cX12_bend 30 = .ok (.iload 4, 2) := by decide +kernel
theorem dX12_bend_32 : decode cX12_bend 32 = .ok (.ixor, 1) := by decide +kernel
theorem dX12_bend_33 : decode cX12_bend 33 = .ok (.iastore, 1) := by decide +kernel
theorem dX12_bend_34 : decode cX12_bend 34 = .ok (.iconst 1, 1) := by decide +kernel
theorem dX12_bend_35 : decode cX12_bend 35 = .ok (.ireturn, 1) := by decide +kernel
theorem dX12_forge_0 : decode cX12_forge 0 = .ok (.aload_n 0, 1) := by decide +kernel
theorem dX12_forge_1 : decode cX12_forge 1 = .ok (.iload_n 1, 1) := by decide +kernel
theorem dX12_forge_2 : decode cX12_forge 2 = .ok (.invokevirtual 292, 3) := by decide +kernel
theorem dX12_forge_5 : decode cX12_forge 5 = .ok (.ifCond .ne 5, 3) := by decide +kernel
theorem dX12_forge_8 : decode cX12_forge 8 = .ok (.iconst 0, 1) := by decide +kernel
theorem dX12_forge_9 : decode cX12_forge 9 = .ok (.ireturn, 1) := by decide +kernel
theorem dX12_forge_10 : decode cX12_forge 10 = .ok (.aload_n 0, 1) := by decide +kernel
theorem dX12_forge_11 : decode cX12_forge 11 = .ok (.getfield 36, 3) := by decide +kernel
theorem dX12_forge_14 : decode cX12_forge 14 = .ok (.bipush 8, 2) := by decide +kernel
theorem dX12_forge_16 : decode cX12_forge 16 = .ok (.iload_n 1, 1) := by decide +kernel
theorem dX12_forge_17 : decode cX12_forge 17 = .ok (.imul, 1) := by decide +kernel
theorem dX12_forge_18 : decode cX12_forge 18 = .ok (.iaload, 1) := by decide +kernel
theorem dX12_forge_19 : decode cX12_forge 19 = .ok (.istore 6, 2) := by decide +kernel
theorem dX12_forge_21 : decode cX12_forge 21 = .ok (.iload 6, 2) := by decide +kernel
theorem dX12_forge_23 : decode cX12_forge 23 = .ok (.iconst 1, 1) := by decide +kernel
theorem dX12_forge_24 : decode cX12_forge 24 = .ok (.if_icmp .ne 7, 3) := by decide +kernel
theorem dX12_forge_27 : decode cX12_forge 27 = .ok (.iconst 1, 1) := by decide +kernel
theorem dX12_forge_28 : decode cX12_forge 28 = .ok (.goto 36, 3) := by decide +kernel
theorem dX12_forge_31 : decode cX12_forge 31 = .ok (.iload 6, 2) := by decide +kernel
theorem dX12_forge_33 : decode cX12_forge 33 = .ok (.iconst 5, 1) := by decide +kernel
theorem dX12_forge_34 : decode cX12_forge 34 = .ok (.if_icmp .ne 29, 3) := by decide +kernel
theorem dX12_forge_37 : decode cX12_forge 37 = .ok (.aload_n 0, 1) := by decide +kernel
theorem dX12_forge_38 : decode cX12_forge 38 = .ok (.getfield 36, 3) := by decide +kernel
theorem dX12_forge_41 : decode cX12_forge 41 = .ok (.bipush 8, 2) := by decide +kernel
theorem dX12_forge_43 : decode cX12_forge 43 = .ok (.iload_n 1, 1) := by decide +kernel
theorem dX12_forge_44 : decode cX12_forge 44 = .ok (.imul, 1) := by decide +kernel
theorem dX12_forge_45 : decode cX12_forge 45 = .ok (.iconst 4, 1) := by decide +kernel
theorem dX12_forge_46 : decode cX12_forge 46 = .ok (.iadd, 1) := by decide +kernel
theorem dX12_forge_47 : decode cX12_forge 47 = .ok (.iaload, 1) := by decide +kernel
theorem dX12_forge_48 : decode cX12_forge 48 = .ok (.aload_n 0, 1) := by decide +kernel
theorem dX12_forge_49 : decode cX12_forge 49 = .ok (.getfield 36, 3) := by decide +kernel
theorem dX12_forge_52 : decode cX12_forge 52 = .ok (.bipush 8, 2) := by decide +kernel
theorem dX12_forge_54 : decode cX12_forge 54 = .ok (.iload_n 1, 1) := by decide +kernel
theorem dX12_forge_55 : decode cX12_forge 55 = .ok (.imul, 1) := by decide +kernel
theorem dX12_forge_56 : decode cX12_forge 56 = .ok (.iconst 3, 1) := by decide +kernel
theorem dX12_forge_57 : decode cX12_forge 57 = .ok (.iadd, 1) := by decide +kernel
theorem dX12_forge_58 : decode cX12_forge 58 = .ok (.iaload, 1) := by decide +kernel
theorem dX12_forge_59 : decode cX12_forge 59 = .ok (.isub, 1) := by decide +kernel
theorem dX12_forge_60 : decode cX12_forge 60 = .ok (.goto 4, 3) := by decide +kernel
theorem dX12_forge_63 : decode cX12_forge 63 = .ok (.iconst 0, 1) := by decide +kernel
theorem dX12_forge_64 : decode cX12_forge 64 = .ok (.istore 7, 2) := by decide +kernel
theorem dX12_forge_66 : decode cX12_forge 66 = .ok (.iload_n 2, 1) := by decide +kernel
theorem dX12_forge_67 : decode cX12_forge 67 = .ok (.ifCond .lt 9, 3) := by decide +kernel
theorem dX12_forge_70 : decode cX12_forge 70 = .ok (.iload_n 2, 1) := by decide +kernel
theorem dX12_forge_71 : decode cX12_forge 71 = .ok (.iload 7, 2) := by decide +kernel
theorem dX12_forge_73 : decode cX12_forge 73 = .ok (.if_icmp .lt 5, 3) := by decide +kernel
theorem dX12_forge_76 : decode cX12_forge 76 = .ok (.iconst 0, 1) := by decide +kernel
theorem dX12_forge_77 : decode cX12_forge 77 = .ok (.ireturn, 1) := by decide +kernel
theorem dX12_forge_78 : decode cX12_forge 78 = .ok (.aload_n 0, 1) := by decide +kernel
theorem dX12_forge_79 : decode cX12_forge 79 = .ok (.getfield 39, 3) := by decide +kernel
theorem dX12_forge_82 : decode cX12_forge 82 = .ok (.bipush 40, 2) := by decide +kernel
theorem dX12_forge_84 : decode cX12_forge 84 = .ok (.iload_n 1, 1) := by decide +kernel
theorem dX12_forge_85 : decode cX12_forge 85 = .ok (.imul, 1) := by decide +kernel
theorem dX12_forge_86 : decode cX12_forge 86 = .ok (.iload_n 2, 1) := by decide +kernel
theorem dX12_forge_87 : decode cX12_forge 87 = .ok (.iadd, 1) := by decide +kernel
theorem dX12_forge_88 : decode cX12_forge 88 = .ok (.iload_n 3, 1) := by decide +kernel
theorem dX12_forge_89 : decode cX12_forge 89 = .ok (.iastore, 1) := by decide +kernel
theorem dX12_forge_90 : decode cX12_forge 90 = .ok (.aload_n 0, 1) := by decide +kernel
theorem dX12_forge_91 : decode cX12_forge 91 = .ok (.getfield 42, 3) := by decide +kernel
theorem dX12_forge_94 : decode cX12_forge 94 = .ok (.bipush 40, 2) := by decide +kernel
theorem dX12_forge_96 : decode cX12_forge 96 = .ok (.iload_n 1, 1) := by decide +kernel
theorem dX12_forge_97 : decode cX12_forge 97 = .ok (.imul, 1) := by decide +kernel
theorem dX12_forge_98 : decode cX12_forge 98 = .ok (.iload_n 2, 1) := by decide +kernel
theorem dX12_forge_99 : decode cX12_forge 99 = .ok (.iadd, 1) := by decide +kernel
theorem dX12_forge_100 : decode cX12_forge 100 = .ok (.lload 4, 2) := by decide +kernel
theorem dX12_forge_102 : decode cX12_forge 102 = .ok (.lastore, 1) := by decide +kernel
theorem dX12_forge_103 : decode cX12_forge 103 = .ok (.iconst 1, 1) := by decide +kernel
theorem dX12_forge_104 : decode cX12_forge 104 = .ok (.ireturn, 1) := by decide +kernel
theorem dX12_laySteps_0 : decode cX12_laySteps 0 = .ok (.iload_n 2, 1) := by decide +kernel
theorem dX12_laySteps_1 : decode cX12_laySteps 1 = .ok (.istore 4, 2) := by decide +kernel
theorem dX12_laySteps_3 : decode cX12_laySteps 3 = .ok (.iload 4, 2) := by decide +kernel
theorem dX12_laySteps_5 : decode cX12_laySteps 5 = .ok (.iload_n 3, 1) := by decide +kernel
theorem dX12_laySteps_6 : decode cX12_laySteps 6 = .ok (.if_icmp .ge 56, 3) := by decide +kernel
theorem dX12_laySteps_9 : decode cX12_laySteps 9 = .ok (.iload 4, 2) := by decide +kernel
theorem dX12_laySteps_11 : decode cX12_laySteps 11 = .ok (.iload_n 3, 1) := by decide +kernel
theorem dX12_laySteps_12 : decode cX12_laySteps 12 = .ok (.invokestatic 212, 3) := by decide +kernel
theorem dX12_laySteps_15 : decode cX12_laySteps 15 = .ok (.istore 5, 2) := by decide +kernel
theorem dX12_laySteps_17 : decode cX12_laySteps 17 = .ok (.aload_n 0, 1) := by decide +kernel
theorem dX12_laySteps_18 : decode cX12_laySteps 18 = .ok (.iload 4, 2) := by decide +kernel
theorem dX12_laySteps_20 : decode cX12_laySteps 20 = .ok (.iload 5, 2) := by decide +kernel
theorem dX12_laySteps_22 : decode cX12_laySteps 22 = .ok (.aload_n 0, 1) := by decide +kernel
theorem dX12_laySteps_23 : decode cX12_laySteps 23 = .ok (.getfield 46, 3) := by decide +kernel
theorem dX12_laySteps_26 : decode cX12_laySteps 26 = .ok (.bipush 8, 2) := by decide +kernel
theorem dX12_laySteps_28 : decode cX12_laySteps 28 = .ok (.sipush 256, 3) := by decide +kernel
theorem dX12_laySteps_31 : decode cX12_laySteps 31 = .ok (.iload_n 1, 1) := by decide +kernel
theorem dX12_laySteps_32 : decode cX12_laySteps 32 = .ok (.imul, 1) := by decide +kernel
theorem dX12_laySteps_33 : decode cX12_laySteps 33 = .ok (.aload_n 0, 1) := by decide +kernel
theorem dX12_laySteps_34 : decode cX12_laySteps 34 = .ok (.getfield 312, 3) := by decide +kernel
theorem dX12_laySteps_37 : decode cX12_laySteps 37 = .ok (.iadd, 1) := by decide +kernel
theorem dX12_laySteps_38 : decode cX12_laySteps 38 = .ok (.imul, 1) := by decide +kernel
theorem dX12_laySteps_39 : decode cX12_laySteps 39 = .ok (.invokevirtual 216, 3) := by decide +kernel
theorem dX12_laySteps_42 : decode cX12_laySteps 42 = .ok (.aload_n 0, 1) := by decide +kernel
theorem dX12_laySteps_43 : decode cX12_laySteps 43 = .ok (.dup, 1) := by decide +kernel
theorem dX12_laySteps_44 : decode cX12_laySteps 44 = .ok (.getfield 312, 3) := by decide +kernel
theorem dX12_laySteps_47 : decode cX12_laySteps 47 = .ok (.iconst 1, 1) := by decide +kernel
theorem dX12_laySteps_48 : decode cX12_laySteps 48 = .ok (.iadd, 1) := by decide +kernel
theorem dX12_laySteps_49 : decode cX12_laySteps 49 = .ok (.putfield 312, 3) := by decide +kernel
theorem dX12_laySteps_52 : decode cX12_laySteps 52 = .ok (.iload 4, 2) := by decide +kernel
theorem dX12_laySteps_54 : decode cX12_laySteps 54 = .ok (.iload 5, 2) := by decide +kernel
theorem dX12_laySteps_56 : decode cX12_laySteps 56 = .ok (.iadd, 1) := by decide +kernel
theorem dX12_laySteps_57 : decode cX12_laySteps 57 = .ok (.istore 4, 2) := by decide +kernel
theorem dX12_laySteps_59 : decode cX12_laySteps 59 = .ok (.goto (-56), 3) := by decide +kernel
theorem dX12_laySteps_62 : decode cX12_laySteps 62 = .ok (.return_, 1) := by decide +kernel
theorem dX12_areLike_0 : decode cX12_areLike 0 = .ok (.iconst 1, 1) := by decide +kernel
theorem dX12_areLike_1 : decode cX12_areLike 1 = .ok (.istore 4, 2) := by decide +kernel
theorem dX12_areLike_3 : decode cX12_areLike 3 = .ok (.iconst 0, 1) := by decide +kernel
theorem dX12_areLike_4 : decode cX12_areLike 4 = .ok (.istore 5, 2) := by decide +kernel
theorem dX12_areLike_6 : decode cX12_areLike 6 = .ok (.iload 5, 2) := by decide +kernel
theorem dX12_areLike_8 : decode cX12_areLike 8 = .ok (.bipush 8, 2) := by decide +kernel
theorem dX12_areLike_10 : decode cX12_areLike 10 = .ok (.if_icmp .ge 36, 3) := by decide +kernel
theorem dX12_areLike_13 : decode cX12_areLike 13 = .ok (.iload 4, 2) := by decide +kernel
theorem dX12_areLike_15 : decode cX12_areLike 15 = .ok (.ifCond .eq 22, 3) := by decide +kernel
theorem dX12_areLike_18 : decode cX12_areLike 18 = .ok (.aload_n 0, 1) := by decide +kernel
theorem dX12_areLike_19 : decode cX12_areLike 19 = .ok (.iload_n 1, 1) := by decide +kernel
theorem dX12_areLike_20 : decode cX12_areLike 20 = .ok (.iload 5, 2) := by decide +kernel
theorem dX12_areLike_22 : decode cX12_areLike 22 = .ok (.iadd, 1) := by decide +kernel
theorem dX12_areLike_23 : decode cX12_areLike 23 = .ok (.iaload, 1) := by decide +kernel
theorem dX12_areLike_24 : decode cX12_areLike 24 = .ok (.aload_n 2, 1) := by decide +kernel
theorem dX12_areLike_25 : decode cX12_areLike 25 = .ok (.iload_n 3, 1) := by decide +kernel
theorem dX12_areLike_26 : decode cX12_areLike 26 = .ok (.iload 5, 2) := by decide +kernel
theorem dX12_areLike_28 : decode cX12_areLike 28 = .ok (.iadd, 1) := by decide +kernel
theorem dX12_areLike_29 : decode cX12_areLike 29 = .ok (.iaload, 1) := by decide +kernel
theorem dX12_areLike_30 : decode cX12_areLike 30 = .ok (.if_icmp .ne 7, 3) := by decide +kernel
theorem dX12_areLike_33 : decode cX12_areLike 33 = .ok (.iconst 1, 1) := by decide +kernel
theorem dX12_areLike_34 : decode cX12_areLike 34 = .ok (.goto 4, 3) := by decide +kernel
theorem dX12_areLike_37 : decode cX12_areLike 37 = .ok (.iconst 0, 1) := by decide +kernel
theorem dX12_areLike_38 : decode cX12_areLike 38 = .ok (.istore 4, 2) := by decide +kernel
theorem dX12_areLike_40 : decode cX12_areLike 40 = .ok (.iinc 5 1, 3) := by decide +kernel
theorem dX12_areLike_43 : decode cX12_areLike 43 = .ok (.goto (-37), 3) := by decide +kernel
theorem dX12_areLike_46 : decode cX12_areLike 46 = .ok (.iload 4, 2) := by decide +kernel
theorem dX12_areLike_48 : decode cX12_areLike 48 = .ok (.ireturn, 1) := by decide +kernel
theorem dX12_isSpanRight_0 : decode cX12_isSpanRight 0 = .ok (.aload_n 0, 1) := by decide +kernel
theorem dX12_isSpanRight_1 : decode cX12_isSpanRight 1 = .ok (.getfield 36, 3) := by decide +kernel
theorem dX12_isSpanRight_4 : decode cX12_isSpanRight 4 = .ok (.bipush 8, 2) := by decide +kernel
theorem dX12_isSpanRight_6 : decode cX12_isSpanRight 6 = .ok (.iload_n 1, 1) := by decide +kernel
theorem dX12_isSpanRight_7 : decode cX12_isSpanRight 7 = .ok (.imul, 1) := by decide +kernel
theorem dX12_isSpanRight_8 : decode cX12_isSpanRight 8 = .ok (.iconst 3, 1) := by decide +kernel
theorem dX12_isSpanRight_9 : decode cX12_isSpanRight 9 = .ok (.iadd, 1) := by decide +kernel
theorem dX12_isSpanRight_10 : decode cX12_isSpanRight 10 = .ok (.iaload, 1) := by decide +kernel
theorem dX12_isSpanRight_11 : decode cX12_isSpanRight 11 = .ok (.istore 4, 2) := by decide +kernel
theorem dX12_isSpanRight_13 : decode cX12_isSpanRight 13 = .ok (.aload_n 0, 1) := by decide +kernel
theorem dX12_isSpanRight_14 : decode cX12_isSpanRight 14 = .ok (.getfield 36, 3) := by decide +kernel
theorem dX12_isSpanRight_17 : decode cX12_isSpanRight 17 = .ok (.bipush 8, 2) := by decide +kernel
theorem dX12_isSpanRight_19 : decode cX12_isSpanRight 19 = .ok (.iload_n 1, 1) := by decide +kernel
theorem dX12_isSpanRight_20 : decode cX12_isSpanRight 20 = .ok (.imul, 1) := by decide +kernel
theorem dX12_isSpanRight_21 : decode cX12_isSpanRight 21 = .ok (.iaload, 1) := by decide +kernel
theorem dX12_isSpanRight_22 : decode cX12_isSpanRight 22 = .ok (.iconst 1, 1) := by decide +kernel
theorem dX12_isSpanRight_23 : decode cX12_isSpanRight 23 = .ok (.if_icmp .ne 10, 3) := by decide +kernel
theorem dX12_isSpanRight_26 : decode cX12_isSpanRight 26 = .ok (.iload 4, 2) := by decide +kernel
theorem dX12_isSpanRight_28 : decode cX12_isSpanRight 28 = .ok (.iconst 1, 1) := by decide +kernel
theorem dX12_isSpanRight_29 : decode cX12_isSpanRight 29 = .ok (.iadd, 1) := by decide +kernel
theorem dX12_isSpanRight_30 : decode cX12_isSpanRight 30 = .ok (.goto 14, 3) := by decide +kernel
theorem dX12_isSpanRight_33 : decode cX12_isSpanRight 33 = .ok (.aload_n 0, 1) := by decide +kernel
theorem dX12_isSpanRight_34 : decode cX12_isSpanRight 34 = .ok (.getfield 36, 3) := by decide +kernel
theorem dX12_isSpanRight_37 : decode cX12_isSpanRight 37 = .ok (.bipush 8, 2) := by decide +kernel
theorem dX12_isSpanRight_39 : decode cX12_isSpanRight 39 = .ok (.iload_n 1, 1) := by decide +kernel
theorem dX12_isSpanRight_40 : decode cX12_isSpanRight 40 = .ok (.imul, 1) := by decide +kernel
theorem dX12_isSpanRight_41 : decode cX12_isSpanRight 41 = .ok (.iconst 4, 1) := by decide +kernel
theorem dX12_isSpanRight_42 : decode cX12_isSpanRight 42 = .ok (.iadd, 1) := by decide +kernel
theorem dX12_isSpanRight_43 : decode cX12_isSpanRight 43 = .ok (.iaload, 1) := by decide +kernel
theorem dX12_isSpanRight_44 : decode cX12_isSpanRight 44 = .ok (.istore 5, 2) := by decide +kernel
theorem dX12_isSpanRight_46 : decode cX12_isSpanRight 46 = .ok (.aload_n 0, 1) := by decide +kernel
theorem dX12_isSpanRight_47 : decode cX12_isSpanRight 47 = .ok (.iconst 0, 1) := by decide +kernel
theorem dX12_isSpanRight_48 : decode cX12_isSpanRight 48 = .ok (.putfield 208, 3) := by decide +kernel
theorem dX12_isSpanRight_51 : decode cX12_isSpanRight 51 = .ok (.aload_n 0, 1) := by decide +kernel
theorem dX12_isSpanRight_52 : decode cX12_isSpanRight 52 = .ok (.iconst 0, 1) := by decide +kernel
theorem dX12_isSpanRight_53 : decode cX12_isSpanRight 53 = .ok (.putfield 312, 3) := by decide +kernel
theorem dX12_isSpanRight_56 : decode cX12_isSpanRight 56 = .ok (.aload_n 0, 1) := by decide +kernel
theorem dX12_isSpanRight_57 : decode cX12_isSpanRight 57 = .ok (.iload_n 1, 1) := by decide +kernel
theorem dX12_isSpanRight_58 : decode cX12_isSpanRight 58 = .ok (.iconst 0, 1) := by decide +kernel
theorem dX12_isSpanRight_59 : decode cX12_isSpanRight 59 = .ok (.iload 4, 2) := by decide +kernel
theorem dX12_isSpanRight_61 : decode cX12_isSpanRight 61 = .ok (.invokevirtual 315, 3) := by decide +kernel
theorem dX12_isSpanRight_64 : decode cX12_isSpanRight 64 = .ok (.iload 4, 2) := by decide +kernel
theorem dX12_isSpanRight_66 : decode cX12_isSpanRight 66 = .ok (.istore 6, 2) := by decide +kernel
theorem dX12_isSpanRight_68 : decode cX12_isSpanRight 68 = .ok (.iload 6, 2) := by decide +kernel
theorem dX12_isSpanRight_70 : decode cX12_isSpanRight 70 = .ok (.iload 5, 2) := by decide +kernel
theorem dX12_isSpanRight_72 : decode cX12_isSpanRight 72 = .ok (.if_icmp .ge 60, 3) := by decide +kernel
theorem dX12_isSpanRight_75 : decode cX12_isSpanRight 75 = .ok (.aload_n 0, 1) := by decide +kernel
theorem dX12_isSpanRight_76 : decode cX12_isSpanRight 76 = .ok (.aload_n 0, 1) := by decide +kernel
theorem dX12_isSpanRight_77 : decode cX12_isSpanRight 77 = .ok (.getfield 39, 3) := by decide +kernel
theorem dX12_isSpanRight_80 : decode cX12_isSpanRight 80 = .ok (.bipush 40, 2) := by decide +kernel
theorem dX12_isSpanRight_82 : decode cX12_isSpanRight 82 = .ok (.iload_n 1, 1) := by decide +kernel
theorem dX12_isSpanRight_83 : decode cX12_isSpanRight 83 = .ok (.imul, 1) := by decide +kernel
theorem dX12_isSpanRight_84 : decode cX12_isSpanRight 84 = .ok (.iload 6, 2) := by decide +kernel
theorem dX12_isSpanRight_86 : decode cX12_isSpanRight 86 = .ok (.iadd, 1) := by decide +kernel
theorem dX12_isSpanRight_87 : decode cX12_isSpanRight 87 = .ok (.iload 4, 2) := by decide +kernel
theorem dX12_isSpanRight_89 : decode cX12_isSpanRight 89 = .ok (.isub, 1) := by decide +kernel
theorem dX12_isSpanRight_90 : decode cX12_isSpanRight 90 = .ok (.iaload, 1) := by decide +kernel
theorem dX12_isSpanRight_91 : decode cX12_isSpanRight 91 = .ok (.aload_n 0, 1) := by decide +kernel
theorem dX12_isSpanRight_92 : decode cX12_isSpanRight 92 = .ok (.getfield 42, 3) := by decide +kernel
theorem dX12_isSpanRight_95 : decode cX12_isSpanRight 95 = .ok (.bipush 40, 2) := by decide +kernel
theorem dX12_isSpanRight_97 : decode cX12_isSpanRight 97 = .ok (.iload_n 1, 1) := by decide +kernel
theorem dX12_isSpanRight_98 : decode cX12_isSpanRight 98 = .ok (.imul, 1) := by decide +kernel
theorem dX12_isSpanRight_99 : decode cX12_isSpanRight 99 = .ok (.iload 6, 2) := by decide +kernel
theorem dX12_isSpanRight_101 : decode cX12_isSpanRight 101 = .ok (.iadd, 1) := by decide +kernel
theorem dX12_isSpanRight_102 : decode cX12_isSpanRight 102 = .ok (.iload 4, 2) := by decide +kernel
theorem dX12_isSpanRight_104 : decode cX12_isSpanRight 104 = .ok (.isub, 1) := by decide +kernel
theorem dX12_isSpanRight_105 : decode cX12_isSpanRight 105 = .ok (.laload, 1) := by decide +kernel
theorem dX12_isSpanRight_106 : decode cX12_isSpanRight 106 = .ok (.aload_n 0, 1) := by decide +kernel
theorem dX12_isSpanRight_107 : decode cX12_isSpanRight 107 = .ok (.getfield 148, 3) := by decide +kernel
theorem dX12_isSpanRight_110 : decode cX12_isSpanRight 110 = .ok (.iconst 0, 1) := by decide +kernel
theorem dX12_isSpanRight_111 : decode cX12_isSpanRight 111 = .ok (.invokevirtual 196, 3) := by decide +kernel
theorem dX12_isSpanRight_114 : decode cX12_isSpanRight 114 = .ok (.aload_n 0, 1) := by decide +kernel
theorem dX12_isSpanRight_115 : decode cX12_isSpanRight 115 = .ok (.iload 6, 2) := by decide +kernel
theorem dX12_isSpanRight_117 : decode cX12_isSpanRight 117 = .ok (.iconst 1, 1) := by decide +kernel
theorem dX12_isSpanRight_118 : decode cX12_isSpanRight 118 = .ok (.aload_n 0, 1) := by decide +kernel
theorem dX12_isSpanRight_119 : decode cX12_isSpanRight 119 = .ok (.getfield 148, 3) := by decide +kernel
theorem dX12_isSpanRight_122 : decode cX12_isSpanRight 122 = .ok (.iconst 0, 1) := by decide +kernel
theorem dX12_isSpanRight_123 : decode cX12_isSpanRight 123 = .ok (.invokevirtual 216, 3) := by decide +kernel
theorem dX12_isSpanRight_126 : decode cX12_isSpanRight 126 = .ok (.iinc 6 1, 3) := by decide +kernel
theorem dX12_isSpanRight_129 : decode cX12_isSpanRight 129 = .ok (.goto (-61), 3) := by decide +kernel
theorem dX12_isSpanRight_132 : decode cX12_isSpanRight 132 = .ok (.aload_n 0, 1) := by decide +kernel
theorem dX12_isSpanRight_133 : decode cX12_isSpanRight 133 = .ok (.iload_n 1, 1) := by decide +kernel
theorem dX12_isSpanRight_134 : decode cX12_isSpanRight 134 = .ok (.iload 5, 2) := by decide +kernel
theorem dX12_isSpanRight_136 : decode cX12_isSpanRight 136 = .ok (.aload_n 0, 1) := by decide +kernel
theorem dX12_isSpanRight_137 : decode cX12_isSpanRight 137 = .ok (.getfield 36, 3) := by decide +kernel
theorem dX12_isSpanRight_140 : decode cX12_isSpanRight 140 = .ok (.bipush 8, 2) := by decide +kernel
theorem dX12_isSpanRight_142 : decode cX12_isSpanRight 142 = .ok (.iload_n 1, 1) := by decide +kernel
theorem dX12_isSpanRight_143 : decode cX12_isSpanRight 143 = .ok (.imul, 1) := by decide +kernel
theorem dX12_isSpanRight_144 : decode cX12_isSpanRight 144 = .ok (.iconst 2, 1) := by decide +kernel
theorem dX12_isSpanRight_145 : decode cX12_isSpanRight 145 = .ok (.iadd, 1) := by decide +kernel
theorem dX12_isSpanRight_146 : decode cX12_isSpanRight 146 = .ok (.iaload, 1) := by decide +kernel
theorem dX12_isSpanRight_147 : decode cX12_isSpanRight 147 = .ok (.invokevirtual 315, 3) := by decide +kernel
theorem dX12_isSpanRight_150 : decode cX12_isSpanRight 150 = .ok (.aload_n 0, 1) := by decide +kernel
theorem dX12_isSpanRight_151 : decode cX12_isSpanRight 151 = .ok (.aload_n 0, 1) := by decide +kernel
theorem dX12_isSpanRight_152 : decode cX12_isSpanRight 152 = .ok (.getfield 178, 3) := by decide +kernel
theorem dX12_isSpanRight_155 : decode cX12_isSpanRight 155 = .ok (.iconst 0, 1) := by decide +kernel
theorem dX12_isSpanRight_156 : decode cX12_isSpanRight 156 = .ok (.invokevirtual 258, 3) := by decide +kernel
theorem dX12_isSpanRight_159 : decode cX12_isSpanRight 159 = .ok (.aload_n 0, 1) := by decide +kernel
theorem dX12_isSpanRight_160 : decode cX12_isSpanRight 160 = .ok (.getfield 178, 3) := by decide +kernel
theorem dX12_isSpanRight_163 : decode cX12_isSpanRight 163 = .ok (.iconst 0, 1) := by decide +kernel
theorem dX12_isSpanRight_164 : decode cX12_isSpanRight 164 = .ok (.aload_n 2, 1) := by decide +kernel
theorem dX12_isSpanRight_165 : decode cX12_isSpanRight 165 = .ok (.iload_n 3, 1) := by decide +kernel
theorem dX12_isSpanRight_166 : decode cX12_isSpanRight 166 = .ok (.iconst 4, 1) := by decide +kernel
theorem dX12_isSpanRight_167 : decode cX12_isSpanRight 167 = .ok (.iadd, 1) := by decide +kernel
theorem dX12_isSpanRight_168 : decode cX12_isSpanRight 168 = .ok (.invokestatic 318, 3) := by decide +kernel
theorem dX12_isSpanRight_171 : decode cX12_isSpanRight 171 = .ok (.ireturn, 1) := by decide +kernel
theorem dX12_isGrownRight_0 : decode cX12_isGrownRight 0 = .ok (.aload_n 0, 1) := by decide +kernel
theorem dX12_isGrownRight_1 : decode cX12_isGrownRight 1 = .ok (.getfield 36, 3) := by decide +kernel
theorem dX12_isGrownRight_4 : decode cX12_isGrownRight 4 = .ok (.bipush 8, 2) := by decide +kernel
theorem dX12_isGrownRight_6 : decode cX12_isGrownRight 6 = .ok (.iload_n 1, 1) := by decide +kernel
theorem dX12_isGrownRight_7 : decode cX12_isGrownRight 7 = .ok (.imul, 1) := by decide +kernel
theorem dX12_isGrownRight_8 : decode cX12_isGrownRight 8 = .ok (.iconst 3, 1) := by decide +kernel
theorem dX12_isGrownRight_9 : decode cX12_isGrownRight 9 = .ok (.iadd, 1) := by decide +kernel
theorem dX12_isGrownRight_10 : decode cX12_isGrownRight 10 = .ok (.iaload, 1) := by decide +kernel
theorem dX12_isGrownRight_11 : decode cX12_isGrownRight 11 = .ok (.istore 6, 2) := by decide +kernel
theorem dX12_isGrownRight_13 : decode cX12_isGrownRight 13 = .ok (.aload_n 0, 1) := by decide +kernel
theorem dX12_isGrownRight_14 : decode cX12_isGrownRight 14 = .ok (.iconst 0, 1) := by decide +kernel
theorem dX12_isGrownRight_15 : decode cX12_isGrownRight 15 = .ok (.putfield 208, 3) := by decide +kernel
theorem dX12_isGrownRight_18 : decode cX12_isGrownRight 18 = .ok (.aload_n 0, 1) := by decide +kernel
theorem dX12_isGrownRight_19 : decode cX12_isGrownRight 19 = .ok (.iconst 0, 1) := by decide +kernel
theorem dX12_isGrownRight_20 : decode cX12_isGrownRight 20 = .ok (.putfield 312, 3) := by decide +kernel
theorem dX12_isGrownRight_23 : decode cX12_isGrownRight 23 = .ok (.aload_n 0, 1) := by decide +kernel
theorem dX12_isGrownRight_24 : decode cX12_isGrownRight 24 = .ok (.iload_n 1, 1) := by decide +kernel
theorem dX12_isGrownRight_25 : decode cX12_isGrownRight 25 = .ok (.iconst 0, 1) := by decide +kernel
theorem dX12_isGrownRight_26 : decode cX12_isGrownRight 26 = .ok (.iload 6, 2) := by decide +kernel
theorem dX12_isGrownRight_28 : decode cX12_isGrownRight 28 = .ok (.invokevirtual 315, 3) := by decide +kernel
theorem dX12_isGrownRight_31 : decode cX12_isGrownRight 31 = .ok (.aload_n 0, 1) := by decide +kernel
theorem dX12_isGrownRight_32 : decode cX12_isGrownRight 32 = .ok (.aload_n 0, 1) := by decide +kernel
theorem dX12_isGrownRight_33 : decode cX12_isGrownRight 33 = .ok (.getfield 178, 3) := by decide +kernel
theorem dX12_isGrownRight_36 : decode cX12_isGrownRight 36 = .ok (.iconst 0, 1) := by decide +kernel
theorem dX12_isGrownRight_37 : decode cX12_isGrownRight 37 = .ok (.invokevirtual 258, 3) := by decide +kernel
theorem dX12_isGrownRight_40 : decode cX12_isGrownRight 40 = .ok (.aload_n 0, 1) := by decide +kernel
theorem dX12_isGrownRight_41 : decode cX12_isGrownRight 41 = .ok (.getfield 178, 3) := by decide +kernel
theorem dX12_isGrownRight_44 : decode cX12_isGrownRight 44 = .ok (.iconst 0, 1) := by decide +kernel
theorem dX12_isGrownRight_45 : decode cX12_isGrownRight 45 = .ok (.aload_n 2, 1) := by decide +kernel
theorem dX12_isGrownRight_46 : decode cX12_isGrownRight 46 = .ok (.iload_n 3, 1) := by decide +kernel
theorem dX12_isGrownRight_47 : decode cX12_isGrownRight 47 = .ok (.iconst 4, 1) := by decide +kernel
theorem dX12_isGrownRight_48 : decode cX12_isGrownRight 48 = .ok (.iadd, 1) := by decide +kernel
theorem dX12_isGrownRight_49 : decode cX12_isGrownRight 49 = .ok (.invokestatic 318, 3) := by decide +kernel
theorem dX12_isGrownRight_52 : decode cX12_isGrownRight 52 = .ok (.ifCond .ne 5, 3) := by decide +kernel
theorem dX12_isGrownRight_55 : decode cX12_isGrownRight 55 = .ok (.iconst 0, 1) := by decide +kernel
theorem dX12_isGrownRight_56 : decode cX12_isGrownRight 56 = .ok (.ireturn, 1) := by decide +kernel
theorem dX12_isGrownRight_57 : decode cX12_isGrownRight 57 = .ok (.aload_n 0, 1) := by decide +kernel
theorem dX12_isGrownRight_58 : decode cX12_isGrownRight 58 = .ok (.iload_n 1, 1) := by decide +kernel
theorem dX12_isGrownRight_59 : decode cX12_isGrownRight 59 = .ok (.iload 6, 2) := by decide +kernel
theorem dX12_isGrownRight_61 : decode cX12_isGrownRight 61 = .ok (.aload_n 0, 1) := by decide +kernel
theorem dX12_isGrownRight_62 : decode cX12_isGrownRight 62 = .ok (.getfield 36, 3) := by decide +kernel
theorem dX12_isGrownRight_65 : decode cX12_isGrownRight 65 = .ok (.bipush 8, 2) := by decide +kernel
theorem dX12_isGrownRight_67 : decode cX12_isGrownRight 67 = .ok (.iload_n 1, 1) := by decide +kernel
theorem dX12_isGrownRight_68 : decode cX12_isGrownRight 68 = .ok (.imul, 1) := by decide +kernel
theorem dX12_isGrownRight_69 : decode cX12_isGrownRight 69 = .ok (.iconst 2, 1) := by decide +kernel
theorem dX12_isGrownRight_70 : decode cX12_isGrownRight 70 = .ok (.iadd, 1) := by decide +kernel
theorem dX12_isGrownRight_71 : decode cX12_isGrownRight 71 = .ok (.iaload, 1) := by decide +kernel
theorem dX12_isGrownRight_72 : decode cX12_isGrownRight 72 = .ok (.invokevirtual 315, 3) := by decide +kernel
theorem dX12_isGrownRight_75 : decode cX12_isGrownRight 75 = .ok (.aload_n 0, 1) := by decide +kernel
theorem dX12_isGrownRight_76 : decode cX12_isGrownRight 76 = .ok (.aload_n 0, 1) := by decide +kernel
theorem dX12_isGrownRight_77 : decode cX12_isGrownRight 77 = .ok (.getfield 178, 3) := by decide +kernel
theorem dX12_isGrownRight_80 : decode cX12_isGrownRight 80 = .ok (.iconst 0, 1) := by decide +kernel
theorem dX12_isGrownRight_81 : decode cX12_isGrownRight 81 = .ok (.invokevirtual 258, 3) := by decide +kernel
theorem dX12_isGrownRight_84 : decode cX12_isGrownRight 84 = .ok (.aload_n 0, 1) := by decide +kernel
theorem dX12_isGrownRight_85 : decode cX12_isGrownRight 85 = .ok (.getfield 178, 3) := by decide +kernel
theorem dX12_isGrownRight_88 : decode cX12_isGrownRight 88 = .ok (.iconst 0, 1) := by decide +kernel
theorem dX12_isGrownRight_89 : decode cX12_isGrownRight 89 = .ok (.aload 4, 2) := by decide +kernel
theorem dX12_isGrownRight_91 : decode cX12_isGrownRight 91 = .ok (.iload 5, 2) := by decide +kernel
theorem dX12_isGrownRight_93 : decode cX12_isGrownRight 93 = .ok (.iconst 4, 1) := by decide +kernel
theorem dX12_isGrownRight_94 : decode cX12_isGrownRight 94 = .ok (.iadd, 1) := by decide +kernel
theorem dX12_isGrownRight_95 : decode cX12_isGrownRight 95 = .ok (.invokestatic 318, 3) := by decide +kernel
theorem dX12_isGrownRight_98 : decode cX12_isGrownRight 98 = .ok (.ireturn, 1) := by decide +kernel
theorem dX12_isWayRight_0 : decode cX12_isWayRight 0 = .ok (.aload_n 0, 1) := by decide +kernel
theorem dX12_isWayRight_1 : decode cX12_isWayRight 1 = .ok (.getfield 36, 3) := by decide +kernel
theorem dX12_isWayRight_4 : decode cX12_isWayRight 4 = .ok (.bipush 8, 2) := by decide +kernel
theorem dX12_isWayRight_6 : decode cX12_isWayRight 6 = .ok (.iload_n 1, 1) := by decide +kernel
theorem dX12_isWayRight_7 : decode cX12_isWayRight 7 = .ok (.imul, 1) := by decide +kernel
theorem dX12_isWayRight_8 : decode cX12_isWayRight 8 = .ok (.iaload, 1) := by decide +kernel
theorem dX12_isWayRight_9 : decode cX12_isWayRight 9 = .ok (.iconst 3, 1) := by decide +kernel
theorem dX12_isWayRight_10 : decode cX12_isWayRight 10 = .ok (.if_icmp .ne 7, 3) := by decide +kernel
theorem dX12_isWayRight_13 : decode cX12_isWayRight 13 = .ok (.iconst 1, 1) := by decide +kernel
theorem dX12_isWayRight_14 : decode cX12_isWayRight 14 = .ok (.goto 4, 3) := by decide +kernel
theorem dX12_isWayRight_17 : decode cX12_isWayRight 17 = .ok (.iconst 0, 1) := by decide +kernel
theorem dX12_isWayRight_18 : decode cX12_isWayRight 18 = .ok (.istore 4, 2) := by decide +kernel
theorem dX12_isWayRight_20 : decode cX12_isWayRight 20 = .ok (.aload_n 0, 1) := by decide +kernel
theorem dX12_isWayRight_21 : decode cX12_isWayRight 21 = .ok (.getfield 39, 3) := by decide +kernel
theorem dX12_isWayRight_24 : decode cX12_isWayRight 24 = .ok (.bipush 40, 2) := by decide +kernel
theorem dX12_isWayRight_26 : decode cX12_isWayRight 26 = .ok (.iload_n 1, 1) := by decide +kernel
theorem dX12_isWayRight_27 : decode cX12_isWayRight 27 = .ok (.imul, 1) := by decide +kernel
theorem dX12_isWayRight_28 : decode cX12_isWayRight 28 = .ok (.iaload, 1) := by decide +kernel
theorem dX12_isWayRight_29 : decode cX12_isWayRight 29 = .ok (.istore 5, 2) := by decide +kernel
theorem dX12_isWayRight_31 : decode cX12_isWayRight 31 = .ok (.iload 4, 2) := by decide +kernel
theorem dX12_isWayRight_33 : decode cX12_isWayRight 33 = .ok (.ifCond .eq 32, 3) := by decide +kernel
theorem dX12_isWayRight_36 : decode cX12_isWayRight 36 = .ok (.aload_n 0, 1) := by decide +kernel
theorem dX12_isWayRight_37 : decode cX12_isWayRight 37 = .ok (.iload 5, 2) := by decide +kernel
theorem dX12_isWayRight_39 : decode cX12_isWayRight 39 = .ok (.aload_n 0, 1) := by decide +kernel
theorem dX12_isWayRight_40 : decode cX12_isWayRight 40 = .ok (.getfield 36, 3) := by decide +kernel
theorem dX12_isWayRight_43 : decode cX12_isWayRight 43 = .ok (.bipush 8, 2) := by decide +kernel
theorem dX12_isWayRight_45 : decode cX12_isWayRight 45 = .ok (.iload_n 1, 1) := by decide +kernel
theorem dX12_isWayRight_46 : decode cX12_isWayRight 46 = .ok (.imul, 1) := by decide +kernel
theorem dX12_isWayRight_47 : decode cX12_isWayRight 47 = .ok (.iconst 5, 1) := by decide +kernel
theorem dX12_isWayRight_48 : decode cX12_isWayRight 48 = .ok (.iadd, 1) := by decide +kernel
theorem dX12_isWayRight_49 : decode cX12_isWayRight 49 = .ok (.iaload, 1) := by decide +kernel
theorem dX12_isWayRight_50 : decode cX12_isWayRight 50 = .ok (.invokevirtual 241, 3) := by decide +kernel
theorem dX12_isWayRight_53 : decode cX12_isWayRight 53 = .ok (.aload_n 0, 1) := by decide +kernel
theorem dX12_isWayRight_54 : decode cX12_isWayRight 54 = .ok (.aload_n 0, 1) := by decide +kernel
theorem dX12_isWayRight_55 : decode cX12_isWayRight 55 = .ok (.getfield 178, 3) := by decide +kernel
theorem dX12_isWayRight_58 : decode cX12_isWayRight 58 = .ok (.iconst 0, 1) := by decide +kernel
theorem dX12_isWayRight_59 : decode cX12_isWayRight 59 = .ok (.invokevirtual 192, 3) := by decide +kernel
theorem dX12_isWayRight_62 : decode cX12_isWayRight 62 = .ok (.goto 101, 3) := by decide +kernel
theorem dX12_isWayRight_65 : decode cX12_isWayRight 65 = .ok (.aload_n 0, 1) := by decide +kernel
theorem dX12_isWayRight_66 : decode cX12_isWayRight 66 = .ok (.getfield 36, 3) := by decide +kernel
theorem dX12_isWayRight_69 : decode cX12_isWayRight 69 = .ok (.bipush 8, 2) := by decide +kernel
theorem dX12_isWayRight_71 : decode cX12_isWayRight 71 = .ok (.iload_n 1, 1) := by decide +kernel
theorem dX12_isWayRight_72 : decode cX12_isWayRight 72 = .ok (.imul, 1) := by decide +kernel
theorem dX12_isWayRight_73 : decode cX12_isWayRight 73 = .ok (.bipush 7, 2) := by decide +kernel
theorem dX12_isWayRight_75 : decode cX12_isWayRight 75 = .ok (.iadd, 1) := by decide +kernel
theorem dX12_isWayRight_76 : decode cX12_isWayRight 76 = .ok (.iaload, 1) := by decide +kernel
theorem dX12_isWayRight_77 : decode cX12_isWayRight 77 = .ok (.iconst 1, 1) := by decide +kernel
theorem dX12_isWayRight_78 : decode cX12_isWayRight 78 = .ok (.if_icmp .ne 61, 3) := by decide +kernel
theorem dX12_isWayRight_81 : decode cX12_isWayRight 81 = .ok (.aload_n 0, 1) := by decide +kernel
theorem dX12_isWayRight_82 : decode cX12_isWayRight 82 = .ok (.getfield 36, 3) := by decide +kernel
theorem dX12_isWayRight_85 : decode cX12_isWayRight 85 = .ok (.bipush 8, 2) := by decide +kernel
theorem dX12_isWayRight_87 : decode cX12_isWayRight 87 = .ok (.iload_n 1, 1) := by decide +kernel
theorem dX12_isWayRight_88 : decode cX12_isWayRight 88 = .ok (.imul, 1) := by decide +kernel
theorem dX12_isWayRight_89 : decode cX12_isWayRight 89 = .ok (.bipush 6, 2) := by decide +kernel
theorem dX12_isWayRight_91 : decode cX12_isWayRight 91 = .ok (.iadd, 1) := by decide +kernel
theorem dX12_isWayRight_92 : decode cX12_isWayRight 92 = .ok (.iaload, 1) := by decide +kernel
theorem dX12_isWayRight_93 : decode cX12_isWayRight 93 = .ok (.iload 5, 2) := by decide +kernel
theorem dX12_isWayRight_95 : decode cX12_isWayRight 95 = .ok (.if_icmp .ne 5, 3) := by decide +kernel
theorem dX12_isWayRight_98 : decode cX12_isWayRight 98 = .ok (.iconst 0, 1) := by decide +kernel
theorem dX12_isWayRight_99 : decode cX12_isWayRight 99 = .ok (.ireturn, 1) := by decide +kernel
theorem dX12_isWayRight_100 : decode cX12_isWayRight 100 = .ok (.aload_n 0, 1) := by decide +kernel
theorem dX12_isWayRight_101 : decode cX12_isWayRight 101 = .ok (.aload_n 0, 1) := by decide +kernel
theorem dX12_isWayRight_102 : decode cX12_isWayRight 102 = .ok (.getfield 36, 3) := by decide +kernel
theorem dX12_isWayRight_105 : decode cX12_isWayRight 105 = .ok (.bipush 8, 2) := by decide +kernel
theorem dX12_isWayRight_107 : decode cX12_isWayRight 107 = .ok (.iload_n 1, 1) := by decide +kernel
theorem dX12_isWayRight_108 : decode cX12_isWayRight 108 = .ok (.imul, 1) := by decide +kernel
theorem dX12_isWayRight_109 : decode cX12_isWayRight 109 = .ok (.bipush 6, 2) := by decide +kernel
theorem dX12_isWayRight_111 : decode cX12_isWayRight 111 = .ok (.iadd, 1) := by decide +kernel
theorem dX12_isWayRight_112 : decode cX12_isWayRight 112 = .ok (.iaload, 1) := by decide +kernel
theorem dX12_isWayRight_113 : decode cX12_isWayRight 113 = .ok (.aload_n 0, 1) := by decide +kernel
theorem dX12_isWayRight_114 : decode cX12_isWayRight 114 = .ok (.getfield 36, 3) := by decide +kernel
theorem dX12_isWayRight_117 : decode cX12_isWayRight 117 = .ok (.bipush 8, 2) := by decide +kernel
theorem dX12_isWayRight_119 : decode cX12_isWayRight 119 = .ok (.iload_n 1, 1) := by decide +kernel
theorem dX12_isWayRight_120 : decode cX12_isWayRight 120 = .ok (.imul, 1) := by decide +kernel
theorem dX12_isWayRight_121 : decode cX12_isWayRight 121 = .ok (.iconst 5, 1) := by decide +kernel
theorem dX12_isWayRight_122 : decode cX12_isWayRight 122 = .ok (.iadd, 1) := by decide +kernel
theorem dX12_isWayRight_123 : decode cX12_isWayRight 123 = .ok (.iaload, 1) := by decide +kernel
theorem dX12_isWayRight_124 : decode cX12_isWayRight 124 = .ok (.invokevirtual 241, 3) := by decide +kernel
theorem dX12_isWayRight_127 : decode cX12_isWayRight 127 = .ok (.aload_n 0, 1) := by decide +kernel
theorem dX12_isWayRight_128 : decode cX12_isWayRight 128 = .ok (.aload_n 0, 1) := by decide +kernel
theorem dX12_isWayRight_129 : decode cX12_isWayRight 129 = .ok (.getfield 178, 3) := by decide +kernel
theorem dX12_isWayRight_132 : decode cX12_isWayRight 132 = .ok (.iconst 0, 1) := by decide +kernel
theorem dX12_isWayRight_133 : decode cX12_isWayRight 133 = .ok (.invokevirtual 192, 3) := by decide +kernel
theorem dX12_isWayRight_136 : decode cX12_isWayRight 136 = .ok (.goto 27, 3) := by decide +kernel
theorem dX12_isWayRight_139 : decode cX12_isWayRight 139 = .ok (.iconst 0, 1) := by decide +kernel
theorem dX12_isWayRight_140 : decode cX12_isWayRight 140 = .ok (.istore 6, 2) := by decide +kernel
theorem dX12_isWayRight_142 : decode cX12_isWayRight 142 = .ok (.iload 6, 2) := by decide +kernel
theorem dX12_isWayRight_144 : decode cX12_isWayRight 144 = .ok (.bipush 8, 2) := by decide +kernel
theorem dX12_isWayRight_146 : decode cX12_isWayRight 146 = .ok (.if_icmp .ge 17, 3) := by decide +kernel
theorem dX12_isWayRight_149 : decode cX12_isWayRight 149 = .ok (.aload_n 0, 1) := by decide +kernel
theorem dX12_isWayRight_150 : decode cX12_isWayRight 150 = .ok (.getfield 178, 3) := by decide +kernel
theorem dX12_isWayRight_153 : decode cX12_isWayRight 153 = .ok (.iload 6, 2) := by decide +kernel
theorem dX12_isWayRight_155 : decode cX12_isWayRight 155 = .ok (.iconst 0, 1) := by decide +kernel
theorem dX12_isWayRight_156 : decode cX12_isWayRight 156 = .ok (.iastore, 1) := by decide +kernel
theorem dX12_isWayRight_157 : decode cX12_isWayRight 157 = .ok (.iinc 6 1, 3) := by decide +kernel
theorem dX12_isWayRight_160 : decode cX12_isWayRight 160 = .ok (.goto (-18), 3) := by decide +kernel
theorem dX12_isWayRight_163 : decode cX12_isWayRight 163 = .ok (.aload_n 0, 1) := by decide +kernel
theorem dX12_isWayRight_164 : decode cX12_isWayRight 164 = .ok (.iload 5, 2) := by decide +kernel
theorem dX12_isWayRight_166 : decode cX12_isWayRight 166 = .ok (.invokevirtual 234, 3) := by decide +kernel
theorem dX12_isWayRight_169 : decode cX12_isWayRight 169 = .ok (.aload_n 0, 1) := by decide +kernel
theorem dX12_isWayRight_170 : decode cX12_isWayRight 170 = .ok (.aload_n 0, 1) := by decide +kernel
theorem dX12_isWayRight_171 : decode cX12_isWayRight 171 = .ok (.getfield 175, 3) := by decide +kernel
theorem dX12_isWayRight_174 : decode cX12_isWayRight 174 = .ok (.iconst 0, 1) := by decide +kernel
theorem dX12_isWayRight_175 : decode cX12_isWayRight 175 = .ok (.invokevirtual 192, 3) := by decide +kernel
theorem dX12_isWayRight_178 : decode cX12_isWayRight 178 = .ok (.aload_n 0, 1) := by decide +kernel
theorem dX12_isWayRight_179 : decode cX12_isWayRight 179 = .ok (.getfield 36, 3) := by decide +kernel
theorem dX12_isWayRight_182 : decode cX12_isWayRight 182 = .ok (.bipush 8, 2) := by decide +kernel
theorem dX12_isWayRight_184 : decode cX12_isWayRight 184 = .ok (.iload_n 1, 1) := by decide +kernel
theorem dX12_isWayRight_185 : decode cX12_isWayRight 185 = .ok (.imul, 1) := by decide +kernel
theorem dX12_isWayRight_186 : decode cX12_isWayRight 186 = .ok (.iconst 1, 1) := by decide +kernel
theorem dX12_isWayRight_187 : decode cX12_isWayRight 187 = .ok (.iadd, 1) := by decide +kernel
theorem dX12_isWayRight_188 : decode cX12_isWayRight 188 = .ok (.iaload, 1) := by decide +kernel
theorem dX12_isWayRight_189 : decode cX12_isWayRight 189 = .ok (.iconst 1, 1) := by decide +kernel
theorem dX12_isWayRight_190 : decode cX12_isWayRight 190 = .ok (.isub, 1) := by decide +kernel
theorem dX12_isWayRight_191 : decode cX12_isWayRight 191 = .ok (.istore 6, 2) := by decide +kernel
theorem dX12_isWayRight_193 : decode cX12_isWayRight 193 = .ok (.iload 6, 2) := by decide +kernel
theorem dX12_isWayRight_195 : decode cX12_isWayRight 195 = .ok (.ifCond .lt 78, 3) := by decide +kernel
theorem dX12_isWayRight_198 : decode cX12_isWayRight 198 = .ok (.bipush 8, 2) := by decide +kernel
theorem dX12_isWayRight_200 : decode cX12_isWayRight 200 = .ok (.sipush 256, 3) := by decide +kernel
theorem dX12_isWayRight_203 : decode cX12_isWayRight 203 = .ok (.iload_n 1, 1) := by decide +kernel
theorem dX12_isWayRight_204 : decode cX12_isWayRight 204 = .ok (.imul, 1) := by decide +kernel
theorem dX12_isWayRight_205 : decode cX12_isWayRight 205 = .ok (.iload 6, 2) := by decide +kernel
theorem dX12_isWayRight_207 : decode cX12_isWayRight 207 = .ok (.iadd, 1) := by decide +kernel
theorem dX12_isWayRight_208 : decode cX12_isWayRight 208 = .ok (.imul, 1) := by decide +kernel
theorem dX12_isWayRight_209 : decode cX12_isWayRight 209 = .ok (.istore 7, 2) := by decide +kernel
theorem dX12_isWayRight_211 : decode cX12_isWayRight 211 = .ok (.aload_n 0, 1) := by decide +kernel
theorem dX12_isWayRight_212 : decode cX12_isWayRight 212 = .ok (.getfield 175, 3) := by decide +kernel
theorem dX12_isWayRight_215 : decode cX12_isWayRight 215 = .ok (.iconst 0, 1) := by decide +kernel
theorem dX12_isWayRight_216 : decode cX12_isWayRight 216 = .ok (.iload 6, 2) := by decide +kernel
theorem dX12_isWayRight_218 : decode cX12_isWayRight 218 = .ok (.invokestatic 237, 3) := by decide +kernel
theorem dX12_isWayRight_221 : decode cX12_isWayRight 221 = .ok (.ifCond .eq 26, 3) := by decide +kernel
theorem dX12_isWayRight_224 : decode cX12_isWayRight 224 = .ok (.aload_n 0, 1) := by decide +kernel
theorem dX12_isWayRight_225 : decode cX12_isWayRight 225 = .ok (.aload_n 0, 1) := by decide +kernel
theorem dX12_isWayRight_226 : decode cX12_isWayRight 226 = .ok (.getfield 46, 3) := by decide +kernel
theorem dX12_isWayRight_229 : decode cX12_isWayRight 229 = .ok (.iload 7, 2) := by decide +kernel
theorem dX12_isWayRight_231 : decode cX12_isWayRight 231 = .ok (.aload_n 0, 1) := by decide +kernel
theorem dX12_isWayRight_232 : decode cX12_isWayRight 232 = .ok (.getfield 178, 3) := by decide +kernel
theorem dX12_isWayRight_235 : decode cX12_isWayRight 235 = .ok (.iconst 0, 1) := by decide +kernel
theorem dX12_isWayRight_236 : decode cX12_isWayRight 236 = .ok (.aload_n 0, 1) := by decide +kernel
theorem dX12_isWayRight_237 : decode cX12_isWayRight 237 = .ok (.getfield 178, 3) := by decide +kernel
theorem dX12_isWayRight_240 : decode cX12_isWayRight 240 = .ok (.iconst 0, 1) := by decide +kernel
theorem dX12_isWayRight_241 : decode cX12_isWayRight 241 = .ok (.invokevirtual 204, 3) := by decide +kernel
theorem dX12_isWayRight_244 : decode cX12_isWayRight 244 = .ok (.goto 23, 3) := by decide +kernel
theorem dX12_isWayRight_247 : decode cX12_isWayRight 247 = .ok (.aload_n 0, 1) := by decide +kernel
theorem dX12_isWayRight_248 : decode cX12_isWayRight 248 = .ok (.aload_n 0, 1) := by decide +kernel
theorem dX12_isWayRight_249 : decode cX12_isWayRight 249 = .ok (.getfield 178, 3) := by decide +kernel
theorem dX12_isWayRight_252 : decode cX12_isWayRight 252 = .ok (.iconst 0, 1) := by decide +kernel
theorem dX12_isWayRight_253 : decode cX12_isWayRight 253 = .ok (.aload_n 0, 1) := by decide +kernel
theorem dX12_isWayRight_254 : decode cX12_isWayRight 254 = .ok (.getfield 46, 3) := by decide +kernel
theorem dX12_isWayRight_257 : decode cX12_isWayRight 257 = .ok (.iload 7, 2) := by decide +kernel
theorem dX12_isWayRight_259 : decode cX12_isWayRight 259 = .ok (.aload_n 0, 1) := by decide +kernel
theorem dX12_isWayRight_260 : decode cX12_isWayRight 260 = .ok (.getfield 178, 3) := by decide +kernel
theorem dX12_isWayRight_263 : decode cX12_isWayRight 263 = .ok (.iconst 0, 1) := by decide +kernel
theorem dX12_isWayRight_264 : decode cX12_isWayRight 264 = .ok (.invokevirtual 204, 3) := by decide +kernel
theorem dX12_isWayRight_267 : decode cX12_isWayRight 267 = .ok (.iinc 6 (-1), 3) := by decide +kernel
theorem dX12_isWayRight_270 : decode cX12_isWayRight 270 = .ok (.goto (-77), 3) := by decide +kernel
theorem dX12_isWayRight_273 : decode cX12_isWayRight 273 = .ok (.aload_n 0, 1) := by decide +kernel
theorem dX12_isWayRight_274 : decode cX12_isWayRight 274 = .ok (.getfield 178, 3) := by decide +kernel
theorem dX12_isWayRight_277 : decode cX12_isWayRight 277 = .ok (.iconst 0, 1) := by decide +kernel
theorem dX12_isWayRight_278 : decode cX12_isWayRight 278 = .ok (.aload_n 2, 1) := by decide +kernel
theorem dX12_isWayRight_279 : decode cX12_isWayRight 279 = .ok (.iload_n 3, 1) := by decide +kernel
theorem dX12_isWayRight_280 : decode cX12_isWayRight 280 = .ok (.bipush 12, 2) := by decide +kernel
theorem dX12_isWayRight_282 : decode cX12_isWayRight 282 = .ok (.iadd, 1) := by decide +kernel
theorem dX12_isWayRight_283 : decode cX12_isWayRight 283 = .ok (.invokestatic 318, 3) := by decide +kernel
theorem dX12_isWayRight_286 : decode cX12_isWayRight 286 = .ok (.ireturn, 1) := by decide +kernel
theorem dX12_isReader_0 : decode cX12_isReader 0 = .ok (.iload_n 1, 1) := by decide +kernel
theorem dX12_isReader_1 : decode cX12_isReader 1 = .ok (.ifCond .lt 13, 3) := by decide +kernel
theorem dX12_isReader_4 : decode cX12_isReader 4 = .ok (.iload_n 1, 1) := by decide +kernel
theorem dX12_isReader_5 : decode cX12_isReader 5 = .ok (.bipush 12, 2) := by decide +kernel
theorem dX12_isReader_7 : decode cX12_isReader 7 = .ok (.if_icmp .ge 7, 3) := by decide +kernel
theorem dX12_isReader_10 : decode cX12_isReader 10 = .ok (.iconst 1, 1) := by decide +kernel
theorem dX12_isReader_11 : decode cX12_isReader 11 = .ok (.goto 4, 3) := by decide +kernel
theorem dX12_isReader_14 : decode cX12_isReader 14 = .ok (.iconst 0, 1) := by decide +kernel
theorem dX12_isReader_15 : decode cX12_isReader 15 = .ok (.ireturn, 1) := by decide +kernel
theorem dX12_check_0 : decode cX12_check 0 = .ok (.aload_n 0, 1) := by decide +kernel
theorem dX12_check_1 : decode cX12_check 1 = .ok (.iload_n 1, 1) := by decide +kernel
theorem dX12_check_2 : decode cX12_check 2 = .ok (.invokevirtual 292, 3) := by decide +kernel
theorem dX12_check_5 : decode cX12_check 5 = .ok (.ifCond .eq 32, 3) := by decide +kernel
theorem dX12_check_8 : decode cX12_check 8 = .ok (.aload_n 0, 1) := by decide +kernel
theorem dX12_check_9 : decode cX12_check 9 = .ok (.getfield 36, 3) := by decide +kernel
theorem dX12_check_12 : decode cX12_check 12 = .ok (.bipush 8, 2) := by decide +kernel
theorem dX12_check_14 : decode cX12_check 14 = .ok (.iload_n 1, 1) := by decide +kernel
theorem dX12_check_15 : decode cX12_check 15 = .ok (.imul, 1) := by decide +kernel
theorem dX12_check_16 : decode cX12_check 16 = .ok (.iaload, 1) := by decide +kernel
theorem dX12_check_17 : decode cX12_check 17 = .ok (.ifCond .eq 20, 3) := by decide +kernel
theorem dX12_check_20 : decode cX12_check 20 = .ok (.aload_n 0, 1) := by decide +kernel
theorem dX12_check_21 : decode cX12_check 21 = .ok (.iload_n 2, 1) := by decide +kernel
theorem dX12_check_22 : decode cX12_check 22 = .ok (.invokevirtual 322, 3) := by decide +kernel
theorem dX12_check_25 : decode cX12_check 25 = .ok (.ifCond .eq 12, 3) := by decide +kernel
theorem dX12_check_28 : decode cX12_check 28 = .ok (.aload_n 0, 1) := by decide +kernel
theorem dX12_check_29 : decode cX12_check 29 = .ok (.getfield 52, 3) := by decide +kernel
theorem dX12_check_32 : decode cX12_check 32 = .ok (.iload_n 2, 1) := by decide +kernel
theorem dX12_check_33 : decode cX12_check 33 = .ok (.baload, 1) := by decide +kernel
theorem dX12_check_34 : decode cX12_check 34 = .ok (.ifCond .ne 5, 3) := by decide +kernel
theorem dX12_check_37 : decode cX12_check 37 = .ok (.iconst (-1), 1) := by decide +kernel
theorem dX12_check_38 : decode cX12_check 38 = .ok (.ireturn, 1) := by decide +kernel
theorem dX12_check_39 : decode cX12_check 39 = .ok (.aload_n 0, 1) := by decide +kernel
theorem dX12_check_40 : decode cX12_check 40 = .ok (.getfield 36, 3) := by decide +kernel
theorem dX12_check_43 : decode cX12_check 43 = .ok (.bipush 8, 2) := by decide +kernel
theorem dX12_check_45 : decode cX12_check 45 = .ok (.iload_n 1, 1) := by decide +kernel
theorem dX12_check_46 : decode cX12_check 46 = .ok (.imul, 1) := by decide +kernel
theorem dX12_check_47 : decode cX12_check 47 = .ok (.iaload, 1) := by decide +kernel
theorem dX12_check_48 : decode cX12_check 48 = .ok (.istore 4, 2) := by decide +kernel
theorem dX12_check_50 : decode cX12_check 50 = .ok (.iload 4, 2) := by decide +kernel
theorem dX12_check_52 : decode cX12_check 52 = .ok (.iconst 2, 1) := by decide +kernel
theorem dX12_check_53 : decode cX12_check 53 = .ok (.if_icmp .ne 110, 3) := by decide +kernel
theorem dX12_check_56 : decode cX12_check 56 = .ok (.aload_n 0, 1) := by decide +kernel
theorem dX12_check_57 : decode cX12_check 57 = .ok (.iload_n 3, 1) := by decide +kernel
theorem dX12_check_58 : decode cX12_check 58 = .ok (.invokevirtual 322, 3) := by decide +kernel
theorem dX12_check_61 : decode cX12_check 61 = .ok (.ifCond .eq 12, 3) := by decide +kernel
theorem dX12_check_64 : decode cX12_check 64 = .ok (.aload_n 0, 1) := by decide +kernel
theorem dX12_check_65 : decode cX12_check 65 = .ok (.getfield 52, 3) := by decide +kernel
theorem dX12_check_68 : decode cX12_check 68 = .ok (.iload_n 3, 1) := by decide +kernel
theorem dX12_check_69 : decode cX12_check 69 = .ok (.baload, 1) := by decide +kernel
theorem dX12_check_70 : decode cX12_check 70 = .ok (.ifCond .ne 5, 3) := by decide +kernel
theorem dX12_check_73 : decode cX12_check 73 = .ok (.iconst (-1), 1) := by decide +kernel
theorem dX12_check_74 : decode cX12_check 74 = .ok (.ireturn, 1) := by decide +kernel
theorem dX12_check_75 : decode cX12_check 75 = .ok (.aload_n 0, 1) := by decide +kernel
theorem dX12_check_76 : decode cX12_check 76 = .ok (.getfield 49, 3) := by decide +kernel
theorem dX12_check_79 : decode cX12_check 79 = .ok (.bipush 28, 2) := by decide +kernel
theorem dX12_check_81 : decode cX12_check 81 = .ok (.iload_n 2, 1) := by decide +kernel
theorem dX12_check_82 : decode cX12_check 82 = .ok (.imul, 1) := by decide +kernel
theorem dX12_check_83 : decode cX12_check 83 = .ok (.iaload, 1) := by decide +kernel
theorem dX12_check_84 : decode cX12_check 84 = .ok (.aload_n 0, 1) := by decide +kernel
theorem dX12_check_85 : decode cX12_check 85 = .ok (.getfield 36, 3) := by decide +kernel
theorem dX12_check_88 : decode cX12_check 88 = .ok (.bipush 8, 2) := by decide +kernel
theorem dX12_check_90 : decode cX12_check 90 = .ok (.iload_n 1, 1) := by decide +kernel
theorem dX12_check_91 : decode cX12_check 91 = .ok (.imul, 1) := by decide +kernel
theorem dX12_check_92 : decode cX12_check 92 = .ok (.iconst 3, 1) := by decide +kernel
theorem dX12_check_93 : decode cX12_check 93 = .ok (.iadd, 1) := by decide +kernel
theorem dX12_check_94 : decode cX12_check 94 = .ok (.iaload, 1) := by decide +kernel
theorem dX12_check_95 : decode cX12_check 95 = .ok (.if_icmp .ne 30, 3) := by decide +kernel
theorem dX12_check_98 : decode cX12_check 98 = .ok (.aload_n 0, 1) := by decide +kernel
theorem dX12_check_99 : decode cX12_check 99 = .ok (.getfield 49, 3) := by decide +kernel
theorem dX12_check_102 : decode cX12_check 102 = .ok (.bipush 28, 2) := by decide +kernel
theorem dX12_check_104 : decode cX12_check 104 = .ok (.iload_n 3, 1) := by decide +kernel
theorem dX12_check_105 : decode cX12_check 105 = .ok (.imul, 1) := by decide +kernel
theorem dX12_check_106 : decode cX12_check 106 = .ok (.iaload, 1) := by decide +kernel
theorem dX12_check_107 : decode cX12_check 107 = .ok (.aload_n 0, 1) := by decide +kernel
theorem dX12_check_108 : decode cX12_check 108 = .ok (.getfield 36, 3) := by decide +kernel
theorem dX12_check_111 : decode cX12_check 111 = .ok (.bipush 8, 2) := by decide +kernel
theorem dX12_check_113 : decode cX12_check 113 = .ok (.iload_n 1, 1) := by decide +kernel
theorem dX12_check_114 : decode cX12_check 114 = .ok (.imul, 1) := by decide +kernel
theorem dX12_check_115 : decode cX12_check 115 = .ok (.iconst 2, 1) := by decide +kernel
theorem dX12_check_116 : decode cX12_check 116 = .ok (.iadd, 1) := by decide +kernel
theorem dX12_check_117 : decode cX12_check 117 = .ok (.iaload, 1) := by decide +kernel
theorem dX12_check_118 : decode cX12_check 118 = .ok (.if_icmp .ne 7, 3) := by decide +kernel
theorem dX12_check_121 : decode cX12_check 121 = .ok (.iconst 1, 1) := by decide +kernel
theorem dX12_check_122 : decode cX12_check 122 = .ok (.goto 4, 3) := by decide +kernel
theorem dX12_check_125 : decode cX12_check 125 = .ok (.iconst 0, 1) := by decide +kernel
theorem dX12_check_126 : decode cX12_check 126 = .ok (.istore 5, 2) := by decide +kernel
theorem dX12_check_128 : decode cX12_check 128 = .ok (.iload 5, 2) := by decide +kernel
theorem dX12_check_130 : decode cX12_check 130 = .ok (.ifCond .eq 31, 3) := by decide +kernel
theorem dX12_check_133 : decode cX12_check 133 = .ok (.aload_n 0, 1) := by decide +kernel
theorem dX12_check_134 : decode cX12_check 134 = .ok (.iload_n 1, 1) := by decide +kernel
theorem dX12_check_135 : decode cX12_check 135 = .ok (.aload_n 0, 1) := by decide +kernel
theorem dX12_check_136 : decode cX12_check 136 = .ok (.getfield 49, 3) := by decide +kernel
theorem dX12_check_139 : decode cX12_check 139 = .ok (.bipush 28, 2) := by decide +kernel
theorem dX12_check_141 : decode cX12_check 141 = .ok (.iload_n 2, 1) := by decide +kernel
theorem dX12_check_142 : decode cX12_check 142 = .ok (.imul, 1) := by decide +kernel
theorem dX12_check_143 : decode cX12_check 143 = .ok (.aload_n 0, 1) := by decide +kernel
theorem dX12_check_144 : decode cX12_check 144 = .ok (.getfield 49, 3) := by decide +kernel
theorem dX12_check_147 : decode cX12_check 147 = .ok (.bipush 28, 2) := by decide +kernel
theorem dX12_check_149 : decode cX12_check 149 = .ok (.iload_n 3, 1) := by decide +kernel
theorem dX12_check_150 : decode cX12_check 150 = .ok (.imul, 1) := by decide +kernel
theorem dX12_check_151 : decode cX12_check 151 = .ok (.invokevirtual 325, 3) := by decide +kernel
theorem dX12_check_154 : decode cX12_check 154 = .ok (.ifCond .eq 7, 3) := by decide +kernel
theorem dX12_check_157 : decode cX12_check 157 = .ok (.iconst 1, 1) := by decide +kernel
theorem dX12_check_158 : decode cX12_check 158 = .ok (.goto 4, 3) := by decide +kernel
theorem dX12_check_161 : decode cX12_check 161 = .ok (.iconst 0, 1) := by decide +kernel
theorem dX12_check_162 : decode cX12_check 162 = .ok (.ireturn, 1) := by decide +kernel
theorem dX12_check_163 : decode cX12_check 163 = .ok (.aload_n 0, 1) := by decide +kernel
theorem dX12_check_164 : decode cX12_check 164 = .ok (.getfield 49, 3) := by decide +kernel
theorem dX12_check_167 : decode cX12_check 167 = .ok (.bipush 28, 2) := by decide +kernel
theorem dX12_check_169 : decode cX12_check 169 = .ok (.iload_n 2, 1) := by decide +kernel
theorem dX12_check_170 : decode cX12_check 170 = .ok (.imul, 1) := by decide +kernel
theorem dX12_check_171 : decode cX12_check 171 = .ok (.iaload, 1) := by decide +kernel
theorem dX12_check_172 : decode cX12_check 172 = .ok (.aload_n 0, 1) := by decide +kernel
theorem dX12_check_173 : decode cX12_check 173 = .ok (.getfield 36, 3) := by decide +kernel
theorem dX12_check_176 : decode cX12_check 176 = .ok (.bipush 8, 2) := by decide +kernel
theorem dX12_check_178 : decode cX12_check 178 = .ok (.iload_n 1, 1) := by decide +kernel
theorem dX12_check_179 : decode cX12_check 179 = .ok (.imul, 1) := by decide +kernel
theorem dX12_check_180 : decode cX12_check 180 = .ok (.iconst 2, 1) := by decide +kernel
theorem dX12_check_181 : decode cX12_check 181 = .ok (.iadd, 1) := by decide +kernel
theorem dX12_check_182 : decode cX12_check 182 = .ok (.iaload, 1) := by decide +kernel
theorem dX12_check_183 : decode cX12_check 183 = .ok (.if_icmp .eq 5, 3) := by decide +kernel
theorem dX12_check_186 : decode cX12_check 186 = .ok (.iconst 0, 1) := by decide +kernel
theorem dX12_check_187 : decode cX12_check 187 = .ok (.ireturn, 1) := by decide +kernel
theorem dX12_check_188 : decode cX12_check 188 = .ok (.iload 4, 2) := by decide +kernel
theorem dX12_check_190 : decode cX12_check 190 = .ok (.iconst 1, 1) := by decide +kernel
theorem dX12_check_191 : decode cX12_check 191 = .ok (.if_icmp .eq 9, 3) := by decide +kernel
theorem dX12_check_194 : decode cX12_check 194 = .ok (.iload 4, 2) := by decide +kernel
theorem dX12_check_196 : decode cX12_check 196 = .ok (.iconst 5, 1) := by decide +kernel
theorem dX12_check_197 : decode cX12_check 197 = .ok (.if_icmp .ne 19, 3) := by decide +kernel
theorem dX12_check_200 : decode cX12_check 200 = .ok (.aload_n 0, 1) := by decide +kernel
theorem dX12_check_201 : decode cX12_check 201 = .ok (.iload_n 1, 1) := by decide +kernel
theorem dX12_check_202 : decode cX12_check 202 = .ok (.aload_n 0, 1) := by decide +kernel
theorem dX12_check_203 : decode cX12_check 203 = .ok (.getfield 49, 3) := by decide +kernel
theorem dX12_check_206 : decode cX12_check 206 = .ok (.bipush 28, 2) := by decide +kernel
theorem dX12_check_208 : decode cX12_check 208 = .ok (.iload_n 2, 1) := by decide +kernel
theorem dX12_check_209 : decode cX12_check 209 = .ok (.imul, 1) := by decide +kernel
theorem dX12_check_210 : decode cX12_check 210 = .ok (.invokevirtual 329, 3) := by decide +kernel
theorem dX12_check_213 : decode cX12_check 213 = .ok (.goto 16, 3) := by decide +kernel
theorem dX12_check_216 : decode cX12_check 216 = .ok (.aload_n 0, 1) := by decide +kernel
theorem dX12_check_217 : decode cX12_check 217 = .ok (.iload_n 1, 1) := by decide +kernel
theorem dX12_check_218 : decode cX12_check 218 = .ok (.aload_n 0, 1) := by decide +kernel
theorem dX12_check_219 : decode cX12_check 219 = .ok (.getfield 49, 3) := by decide +kernel
theorem dX12_check_222 : decode cX12_check 222 = .ok (.bipush 28, 2) := by decide +kernel
theorem dX12_check_224 : decode cX12_check 224 = .ok (.iload_n 2, 1) := by decide +kernel
theorem dX12_check_225 : decode cX12_check 225 = .ok (.imul, 1) := by decide +kernel
theorem dX12_check_226 : decode cX12_check 226 = .ok (.invokevirtual 333, 3) := by decide +kernel
theorem dX12_check_229 : decode cX12_check 229 = .ok (.istore 5, 2) := by decide +kernel
theorem dX12_check_231 : decode cX12_check 231 = .ok (.iload 5, 2) := by decide +kernel
theorem dX12_check_233 : decode cX12_check 233 = .ok (.ifCond .eq 7, 3) := by decide +kernel
theorem dX12_check_236 : decode cX12_check 236 = .ok (.iconst 1, 1) := by decide +kernel
theorem dX12_check_237 : decode cX12_check 237 = .ok (.goto 4, 3) := by decide +kernel
theorem dX12_check_240 : decode cX12_check 240 = .ok (.iconst 0, 1) := by decide +kernel
theorem dX12_check_241 : decode cX12_check 241 = .ok (.ireturn, 1) := by decide +kernel
theorem dX12_agree_0 : decode cX12_agree 0 = .ok (.aload_n 1, 1) := by decide +kernel
theorem dX12_agree_1 : decode cX12_agree 1 = .ok (.iload_n 2, 1) := by decide +kernel
theorem dX12_agree_2 : decode cX12_agree 2 = .ok (.iaload, 1) := by decide +kernel
theorem dX12_agree_3 : decode cX12_agree 3 = .ok (.aload_n 3, 1) := by decide +kernel
theorem dX12_agree_4 : decode cX12_agree 4 = .ok (.iload 4, 2) := by decide +kernel
theorem dX12_agree_6 : decode cX12_agree 6 = .ok (.iaload, 1) := by decide +kernel
theorem dX12_agree_7 : decode cX12_agree 7 = .ok (.if_icmp .ne 41, 3) := by decide +kernel
theorem dX12_agree_10 : decode cX12_agree 10 = .ok (.aload_n 1, 1) := by decide +kernel
theorem dX12_agree_11 : decode cX12_agree 11 = .ok (.iload_n 2, 1) := by decide +kernel
theorem dX12_agree_12 : decode cX12_agree 12 = .ok (.iconst 4, 1) := by decide +kernel
theorem dX12_agree_13 : decode cX12_agree 13 = .ok (.iadd, 1) := by decide +kernel
theorem dX12_agree_14 : decode cX12_agree 14 = .ok (.aload_n 3, 1) := by decide +kernel
theorem dX12_agree_15 : decode cX12_agree 15 = .ok (.iload 4, 2) := by decide +kernel
theorem dX12_agree_17 : decode cX12_agree 17 = .ok (.iconst 4, 1) := by decide +kernel
theorem dX12_agree_18 : decode cX12_agree 18 = .ok (.iadd, 1) := by decide +kernel
theorem dX12_agree_19 : decode cX12_agree 19 = .ok (.invokestatic 318, 3) := by decide +kernel
theorem dX12_agree_22 : decode cX12_agree 22 = .ok (.ifCond .eq 24, 3) := by decide +kernel
theorem dX12_agree_25 : decode cX12_agree 25 = .ok (.aload_n 1, 1) := by decide +kernel
theorem dX12_agree_26 : decode cX12_agree 26 = .ok (.iload_n 2, 1) := by decide +kernel
theorem dX12_agree_27 : decode cX12_agree 27 = .ok (.bipush 12, 2) := by decide +kernel
theorem dX12_agree_29 : decode cX12_agree 29 = .ok (.iadd, 1) := by decide +kernel
theorem dX12_agree_30 : decode cX12_agree 30 = .ok (.aload_n 3, 1) := by decide +kernel
theorem dX12_agree_31 : decode cX12_agree 31 = .ok (.iload 4, 2) := by decide +kernel
theorem dX12_agree_33 : decode cX12_agree 33 = .ok (.bipush 12, 2) := by decide +kernel
theorem dX12_agree_35 : decode cX12_agree 35 = .ok (.iadd, 1) := by decide +kernel
theorem dX12_agree_36 : decode cX12_agree 36 = .ok (.invokestatic 318, 3) := by decide +kernel
theorem dX12_agree_39 : decode cX12_agree 39 = .ok (.ifCond .eq 7, 3) := by decide +kernel
theorem dX12_agree_42 : decode cX12_agree 42 = .ok (.iconst 1, 1) := by decide +kernel
theorem dX12_agree_43 : decode cX12_agree 43 = .ok (.goto 4, 3) := by decide +kernel
theorem dX12_agree_46 : decode cX12_agree 46 = .ok (.iconst 0, 1) := by decide +kernel
theorem dX12_agree_47 : decode cX12_agree 47 = .ok (.ireturn, 1) := by decide +kernel
theorem dX12_agree_48 : decode cX12_agree 48 = .ok (.aload_n 1, 1) := by decide +kernel
theorem dX12_agree_49 : decode cX12_agree 49 = .ok (.iload_n 2, 1) := by decide +kernel
theorem dX12_agree_50 : decode cX12_agree 50 = .ok (.iaload, 1) := by decide +kernel
theorem dX12_agree_51 : decode cX12_agree 51 = .ok (.aload_n 3, 1) := by decide +kernel
theorem dX12_agree_52 : decode cX12_agree 52 = .ok (.iload 4, 2) := by decide +kernel
theorem dX12_agree_54 : decode cX12_agree 54 = .ok (.iaload, 1) := by decide +kernel
theorem dX12_agree_55 : decode cX12_agree 55 = .ok (.if_icmp .ge 7, 3) := by decide +kernel
theorem dX12_agree_58 : decode cX12_agree 58 = .ok (.iconst 1, 1) := by decide +kernel
theorem dX12_agree_59 : decode cX12_agree 59 = .ok (.goto 4, 3) := by decide +kernel
theorem dX12_agree_62 : decode cX12_agree 62 = .ok (.iconst 0, 1) := by decide +kernel
theorem dX12_agree_63 : decode cX12_agree 63 = .ok (.istore 5, 2) := by decide +kernel
theorem dX12_agree_65 : decode cX12_agree 65 = .ok (.iload 5, 2) := by decide +kernel
theorem dX12_agree_67 : decode cX12_agree 67 = .ok (.ifCond .eq 7, 3) := by decide +kernel
theorem dX12_agree_70 : decode cX12_agree 70 = .ok (.aload_n 1, 1) := by decide +kernel
theorem dX12_agree_71 : decode cX12_agree 71 = .ok (.goto 4, 3) := by decide +kernel
theorem dX12_agree_74 : decode cX12_agree 74 = .ok (.aload_n 3, 1) := by decide +kernel
theorem dX12_agree_75 : decode cX12_agree 75 = .ok (.astore 6, 2) := by decide +kernel
theorem dX12_agree_77 : decode cX12_agree 77 = .ok (.iload 5, 2) := by decide +kernel
theorem dX12_agree_79 : decode cX12_agree 79 = .ok (.ifCond .eq 7, 3) := by decide +kernel
theorem dX12_agree_82 : decode cX12_agree 82 = .ok (.iload_n 2, 1) := by decide +kernel
theorem dX12_agree_83 : decode cX12_agree 83 = .ok (.goto 5, 3) := by decide +kernel
theorem dX12_agree_86 : decode cX12_agree 86 = .ok (.iload 4, 2) := by decide +kernel
theorem dX12_agree_88 : decode cX12_agree 88 = .ok (.istore 7, 2) := by decide +kernel
theorem dX12_agree_90 : decode cX12_agree 90 = .ok (.iload 5, 2) := by decide +kernel
theorem dX12_agree_92 : decode cX12_agree 92 = .ok (.ifCond .eq 7, 3) := by decide +kernel
theorem dX12_agree_95 : decode cX12_agree 95 = .ok (.aload_n 3, 1) := by decide +kernel
theorem dX12_agree_96 : decode cX12_agree 96 = .ok (.goto 4, 3) := by decide +kernel
theorem dX12_agree_99 : decode cX12_agree 99 = .ok (.aload_n 1, 1) := by decide +kernel
theorem dX12_agree_100 : decode cX12_agree 100 = .ok (.astore 8, 2) := by decide +kernel
theorem dX12_agree_102 : decode cX12_agree 102 = .ok (.iload 5, 2) := by decide +kernel
theorem dX12_agree_104 : decode cX12_agree 104 = .ok (.ifCond .eq 8, 3) := by decide +kernel
theorem dX12_agree_107 : decode cX12_agree 107 = .ok (.iload 4, 2) := by decide +kernel
theorem dX12_agree_109 : decode cX12_agree 109 = .ok (.goto 4, 3) := by decide +kernel
theorem dX12_agree_112 : decode cX12_agree 112 = .ok (.iload_n 2, 1) := by decide +kernel
theorem dX12_agree_113 : decode cX12_agree 113 = .ok (.istore 9, 2) := by decide +kernel
theorem dX12_agree_115 : decode cX12_agree 115 = .ok (.aload_n 0, 1) := by decide +kernel
theorem dX12_agree_116 : decode cX12_agree 116 = .ok (.iconst 0, 1) := by decide +kernel
theorem dX12_agree_117 : decode cX12_agree 117 = .ok (.putfield 208, 3) := by decide +kernel
theorem dX12_agree_120 : decode cX12_agree 120 = .ok (.aload_n 0, 1) := by decide +kernel
theorem dX12_agree_121 : decode cX12_agree 121 = .ok (.aload 8, 2) := by decide +kernel
theorem dX12_agree_123 : decode cX12_agree 123 = .ok (.iload 9, 2) := by decide +kernel
theorem dX12_agree_125 : decode cX12_agree 125 = .ok (.iconst 1, 1) := by decide +kernel
theorem dX12_agree_126 : decode cX12_agree 126 = .ok (.iadd, 1) := by decide +kernel
theorem dX12_agree_127 : decode cX12_agree 127 = .ok (.iaload, 1) := by decide +kernel
theorem dX12_agree_128 : decode cX12_agree 128 = .ok (.iconst 0, 1) := by decide +kernel
theorem dX12_agree_129 : decode cX12_agree 129 = .ok (.aload 6, 2) := by decide +kernel
theorem dX12_agree_131 : decode cX12_agree 131 = .ok (.iload 7, 2) := by decide +kernel
theorem dX12_agree_133 : decode cX12_agree 133 = .ok (.iaload, 1) := by decide +kernel
theorem dX12_agree_134 : decode cX12_agree 134 = .ok (.invokevirtual 254, 3) := by decide +kernel
theorem dX12_agree_137 : decode cX12_agree 137 = .ok (.aload_n 0, 1) := by decide +kernel
theorem dX12_agree_138 : decode cX12_agree 138 = .ok (.aload_n 0, 1) := by decide +kernel
theorem dX12_agree_139 : decode cX12_agree 139 = .ok (.getfield 181, 3) := by decide +kernel
theorem dX12_agree_142 : decode cX12_agree 142 = .ok (.iconst 0, 1) := by decide +kernel
theorem dX12_agree_143 : decode cX12_agree 143 = .ok (.invokevirtual 258, 3) := by decide +kernel
theorem dX12_agree_146 : decode cX12_agree 146 = .ok (.aload_n 0, 1) := by decide +kernel
theorem dX12_agree_147 : decode cX12_agree 147 = .ok (.getfield 181, 3) := by decide +kernel
theorem dX12_agree_150 : decode cX12_agree 150 = .ok (.iconst 0, 1) := by decide +kernel
theorem dX12_agree_151 : decode cX12_agree 151 = .ok (.aload 6, 2) := by decide +kernel
theorem dX12_agree_153 : decode cX12_agree 153 = .ok (.iload 7, 2) := by decide +kernel
theorem dX12_agree_155 : decode cX12_agree 155 = .ok (.iconst 4, 1) := by decide +kernel
theorem dX12_agree_156 : decode cX12_agree 156 = .ok (.iadd, 1) := by decide +kernel
theorem dX12_agree_157 : decode cX12_agree 157 = .ok (.invokestatic 318, 3) := by decide +kernel
theorem dX12_agree_160 : decode cX12_agree 160 = .ok (.ifCond .ne 5, 3) := by decide +kernel
theorem dX12_agree_163 : decode cX12_agree 163 = .ok (.iconst 0, 1) := by decide +kernel
theorem dX12_agree_164 : decode cX12_agree 164 = .ok (.ireturn, 1) := by decide +kernel
theorem dX12_agree_165 : decode cX12_agree 165 = .ok (.aload_n 0, 1) := by decide +kernel
theorem dX12_agree_166 : decode cX12_agree 166 = .ok (.aload 8, 2) := by decide +kernel
theorem dX12_agree_168 : decode cX12_agree 168 = .ok (.iload 9, 2) := by decide +kernel
theorem dX12_agree_170 : decode cX12_agree 170 = .ok (.iconst 1, 1) := by decide +kernel
theorem dX12_agree_171 : decode cX12_agree 171 = .ok (.iadd, 1) := by decide +kernel
theorem dX12_agree_172 : decode cX12_agree 172 = .ok (.iaload, 1) := by decide +kernel
theorem dX12_agree_173 : decode cX12_agree 173 = .ok (.aload 6, 2) := by decide +kernel
theorem dX12_agree_175 : decode cX12_agree 175 = .ok (.iload 7, 2) := by decide +kernel
theorem dX12_agree_177 : decode cX12_agree 177 = .ok (.iaload, 1) := by decide +kernel
theorem dX12_agree_178 : decode cX12_agree 178 = .ok (.aload 8, 2) := by decide +kernel
theorem dX12_agree_180 : decode cX12_agree 180 = .ok (.iload 9, 2) := by decide +kernel
theorem dX12_agree_182 : decode cX12_agree 182 = .ok (.iaload, 1) := by decide +kernel
theorem dX12_agree_183 : decode cX12_agree 183 = .ok (.invokevirtual 254, 3) := by decide +kernel
theorem dX12_agree_186 : decode cX12_agree 186 = .ok (.aload_n 0, 1) := by decide +kernel
theorem dX12_agree_187 : decode cX12_agree 187 = .ok (.aload_n 0, 1) := by decide +kernel
theorem dX12_agree_188 : decode cX12_agree 188 = .ok (.getfield 181, 3) := by decide +kernel
theorem dX12_agree_191 : decode cX12_agree 191 = .ok (.iconst 0, 1) := by decide +kernel
theorem dX12_agree_192 : decode cX12_agree 192 = .ok (.invokevirtual 258, 3) := by decide +kernel
theorem dX12_agree_195 : decode cX12_agree 195 = .ok (.aload_n 0, 1) := by decide +kernel
theorem dX12_agree_196 : decode cX12_agree 196 = .ok (.getfield 181, 3) := by decide +kernel
theorem dX12_agree_199 : decode cX12_agree 199 = .ok (.iconst 0, 1) := by decide +kernel
theorem dX12_agree_200 : decode cX12_agree 200 = .ok (.aload 8, 2) := by decide +kernel
theorem dX12_agree_202 : decode cX12_agree 202 = .ok (.iload 9, 2) := by decide +kernel
theorem dX12_agree_204 : decode cX12_agree 204 = .ok (.iconst 4, 1) := by decide +kernel
theorem dX12_agree_205 : decode cX12_agree 205 = .ok (.iadd, 1) := by decide +kernel
theorem dX12_agree_206 : decode cX12_agree 206 = .ok (.invokestatic 318, 3) := by decide +kernel
theorem dX12_agree_209 : decode cX12_agree 209 = .ok (.ireturn, 1) := by decide +kernel
theorem dX12_copy_0 : decode cX12_copy 0 = .ok (.iconst 0, 1) := by decide +kernel
theorem dX12_copy_1 : decode cX12_copy 1 = .ok (.istore 5, 2) := by decide +kernel
theorem dX12_copy_3 : decode cX12_copy 3 = .ok (.iload 5, 2) := by decide +kernel
theorem dX12_copy_5 : decode cX12_copy 5 = .ok (.bipush 28, 2) := by decide +kernel
theorem dX12_copy_7 : decode cX12_copy 7 = .ok (.if_icmp .ge 32, 3) := by decide +kernel
theorem dX12_copy_10 : decode cX12_copy 10 = .ok (.iload 4, 2) := by decide +kernel
theorem dX12_copy_12 : decode cX12_copy 12 = .ok (.ifCond .ne 9, 3) := by decide +kernel
theorem dX12_copy_15 : decode cX12_copy 15 = .ok (.iload 5, 2) := by decide +kernel
theorem dX12_copy_17 : decode cX12_copy 17 = .ok (.iconst 3, 1) := by decide +kernel
theorem dX12_copy_18 : decode cX12_copy 18 = .ok (.if_icmp .eq 15, 3) := by decide +kernel
theorem dX12_copy_21 : decode cX12_copy 21 = .ok (.aload_n 2, 1) := by decide +kernel
theorem dX12_copy_22 : decode cX12_copy 22 = .ok (.iload_n 3, 1) := by decide +kernel
theorem dX12_copy_23 : decode cX12_copy 23 = .ok (.iload 5, 2) := by decide +kernel
theorem dX12_copy_25 : decode cX12_copy 25 = .ok (.iadd, 1) := by decide +kernel
theorem dX12_copy_26 : decode cX12_copy 26 = .ok (.aload_n 0, 1) := by decide +kernel
theorem dX12_copy_27 : decode cX12_copy 27 = .ok (.iload_n 1, 1) := by decide +kernel
theorem dX12_copy_28 : decode cX12_copy 28 = .ok (.iload 5, 2) := by decide +kernel
theorem dX12_copy_30 : decode cX12_copy 30 = .ok (.iadd, 1) := by decide +kernel
theorem dX12_copy_31 : decode cX12_copy 31 = .ok (.iaload, 1) := by decide +kernel
theorem dX12_copy_32 : decode cX12_copy 32 = .ok (.iastore, 1) := by decide +kernel
theorem dX12_copy_33 : decode cX12_copy 33 = .ok (.iinc 5 1, 3) := by decide +kernel
theorem dX12_copy_36 : decode cX12_copy 36 = .ok (.goto (-33), 3) := by decide +kernel
theorem dX12_copy_39 : decode cX12_copy 39 = .ok (.return_, 1) := by decide +kernel
theorem dX12_blame_0 : decode cX12_blame 0 = .ok (.aload_n 0, 1) := by decide +kernel
theorem dX12_blame_1 : decode cX12_blame 1 = .ok (.getfield 336, 3) := by decide +kernel
theorem dX12_blame_4 : decode cX12_blame 4 = .ok (.bipush 60, 2) := by decide +kernel
theorem dX12_blame_6 : decode cX12_blame 6 = .ok (.if_icmp .ne 4, 3) := by decide +kernel
theorem dX12_blame_9 : decode cX12_blame 9 = .ok (.return_, 1) := by decide +kernel
theorem dX12_blame_10 : decode cX12_blame 10 = .ok (.aload_n 1, 1) := by decide +kernel
theorem dX12_blame_11 : decode cX12_blame 11 = .ok (.iload_n 2, 1) := by decide +kernel
theorem dX12_blame_12 : decode cX12_blame 12 = .ok (.aload_n 0, 1) := by decide +kernel
theorem dX12_blame_13 : decode cX12_blame 13 = .ok (.getfield 55, 3) := by decide +kernel
theorem dX12_blame_16 : decode cX12_blame 16 = .ok (.bipush 56, 2) := by decide +kernel
theorem dX12_blame_18 : decode cX12_blame 18 = .ok (.aload_n 0, 1) := by decide +kernel
theorem dX12_blame_19 : decode cX12_blame 19 = .ok (.getfield 336, 3) := by decide +kernel
theorem dX12_blame_22 : decode cX12_blame 22 = .ok (.imul, 1) := by decide +kernel
theorem dX12_blame_23 : decode cX12_blame 23 = .ok (.iconst 1, 1) := by decide +kernel
theorem dX12_blame_24 : decode cX12_blame 24 = .ok (.invokestatic 339, 3) := by decide +kernel
theorem dX12_blame_27 : decode cX12_blame 27 = .ok (.aload_n 3, 1) := by decide +kernel
theorem dX12_blame_28 : decode cX12_blame 28 = .ok (.iload 4, 2) := by decide +kernel
theorem dX12_blame_30 : decode cX12_blame 30 = .ok (.aload_n 0, 1) := by decide +kernel
theorem dX12_blame_31 : decode cX12_blame 31 = .ok (.getfield 55, 3) := by decide +kernel
theorem dX12_blame_34 : decode cX12_blame 34 = .ok (.bipush 56, 2) := by decide +kernel
theorem dX12_blame_36 : decode cX12_blame 36 = .ok (.aload_n 0, 1) := by decide +kernel
theorem dX12_blame_37 : decode cX12_blame 37 = .ok (.getfield 336, 3) := by decide +kernel
theorem dX12_blame_40 : decode cX12_blame 40 = .ok (.imul, 1) := by decide +kernel
theorem dX12_blame_41 : decode cX12_blame 41 = .ok (.bipush 28, 2) := by decide +kernel
theorem dX12_blame_43 : decode cX12_blame 43 = .ok (.iadd, 1) := by decide +kernel
theorem dX12_blame_44 : decode cX12_blame 44 = .ok (.iconst 1, 1) := by decide +kernel
theorem dX12_blame_45 : decode cX12_blame 45 = .ok (.invokestatic 339, 3) := by decide +kernel
theorem dX12_blame_48 : decode cX12_blame 48 = .ok (.aload_n 0, 1) := by decide +kernel
theorem dX12_blame_49 : decode cX12_blame 49 = .ok (.dup, 1) := by decide +kernel
theorem dX12_blame_50 : decode cX12_blame 50 = .ok (.getfield 336, 3) := by decide +kernel
theorem dX12_blame_53 : decode cX12_blame 53 = .ok (.iconst 1, 1) := by decide +kernel
theorem dX12_blame_54 : decode cX12_blame 54 = .ok (.iadd, 1) := by decide +kernel
theorem dX12_blame_55 : decode cX12_blame 55 = .ok (.putfield 336, 3) := by decide +kernel
theorem dX12_blame_58 : decode cX12_blame 58 = .ok (.return_, 1) := by decide +kernel
theorem dX12_take_0 : decode cX12_take 0 = .ok (.aload_n 0, 1) := by decide +kernel
theorem dX12_take_1 : decode cX12_take 1 = .ok (.iload_n 1, 1) := by decide +kernel
theorem dX12_take_2 : decode cX12_take 2 = .ok (.invokevirtual 322, 3) := by decide +kernel
theorem dX12_take_5 : decode cX12_take 5 = .ok (.ifCond .eq 12, 3) := by decide +kernel
theorem dX12_take_8 : decode cX12_take 8 = .ok (.aload_n 0, 1) := by decide +kernel
theorem dX12_take_9 : decode cX12_take 9 = .ok (.iload_n 2, 1) := by decide +kernel
theorem dX12_take_10 : decode cX12_take 10 = .ok (.iload_n 3, 1) := by decide +kernel
theorem dX12_take_11 : decode cX12_take 11 = .ok (.invokevirtual 277, 3) := by decide +kernel
theorem dX12_take_14 : decode cX12_take 14 = .ok (.ifCond .ne 5, 3) := by decide +kernel
theorem dX12_take_17 : decode cX12_take 17 = .ok (.iconst (-1), 1) := by decide +kernel
theorem dX12_take_18 : decode cX12_take 18 = .ok (.ireturn, 1) := by decide +kernel
theorem dX12_take_19 : decode cX12_take 19 = .ok (.aload_n 0, 1) := by decide +kernel
theorem dX12_take_20 : decode cX12_take 20 = .ok (.iload_n 2, 1) := by decide +kernel
theorem dX12_take_21 : decode cX12_take 21 = .ok (.iload_n 3, 1) := by decide +kernel
theorem dX12_take_22 : decode cX12_take 22 = .ok (.aload_n 0, 1) := by decide +kernel
theorem dX12_take_23 : decode cX12_take 23 = .ok (.getfield 169, 3) := by decide +kernel
theorem dX12_take_26 : decode cX12_take 26 = .ok (.iconst 0, 1) := by decide +kernel
theorem dX12_take_27 : decode cX12_take 27 = .ok (.invokevirtual 285, 3) := by decide +kernel
theorem dX12_take_30 : decode cX12_take 30 = .ok (.bipush 28, 2) := by decide +kernel
theorem dX12_take_32 : decode cX12_take 32 = .ok (.iload_n 1, 1) := by decide +kernel
theorem dX12_take_33 : decode cX12_take 33 = .ok (.imul, 1) := by decide +kernel
theorem dX12_take_34 : decode cX12_take 34 = .ok (.istore 4, 2) := by decide +kernel
theorem dX12_take_36 : decode cX12_take 36 = .ok (.aload_n 0, 1) := by decide +kernel
theorem dX12_take_37 : decode cX12_take 37 = .ok (.getfield 52, 3) := by decide +kernel
theorem dX12_take_40 : decode cX12_take 40 = .ok (.iload_n 1, 1) := by decide +kernel
theorem dX12_take_41 : decode cX12_take 41 = .ok (.baload, 1) := by decide +kernel
theorem dX12_take_42 : decode cX12_take 42 = .ok (.ifCond .eq 87, 3) := by decide +kernel
theorem dX12_take_45 : decode cX12_take 45 = .ok (.aload_n 0, 1) := by decide +kernel
theorem dX12_take_46 : decode cX12_take 46 = .ok (.getfield 49, 3) := by decide +kernel
theorem dX12_take_49 : decode cX12_take 49 = .ok (.iload 4, 2) := by decide +kernel
theorem dX12_take_51 : decode cX12_take 51 = .ok (.iconst 2, 1) := by decide +kernel
theorem dX12_take_52 : decode cX12_take 52 = .ok (.iadd, 1) := by decide +kernel
theorem dX12_take_53 : decode cX12_take 53 = .ok (.iaload, 1) := by decide +kernel
theorem dX12_take_54 : decode cX12_take 54 = .ok (.aload_n 0, 1) := by decide +kernel
theorem dX12_take_55 : decode cX12_take 55 = .ok (.getfield 169, 3) := by decide +kernel
theorem dX12_take_58 : decode cX12_take 58 = .ok (.iconst 2, 1) := by decide +kernel
theorem dX12_take_59 : decode cX12_take 59 = .ok (.iaload, 1) := by decide +kernel
theorem dX12_take_60 : decode cX12_take 60 = .ok (.if_icmp .ne 69, 3) := by decide +kernel
theorem dX12_take_63 : decode cX12_take 63 = .ok (.aload_n 0, 1) := by decide +kernel
theorem dX12_take_64 : decode cX12_take 64 = .ok (.aload_n 0, 1) := by decide +kernel
theorem dX12_take_65 : decode cX12_take 65 = .ok (.getfield 49, 3) := by decide +kernel
theorem dX12_take_68 : decode cX12_take 68 = .ok (.iload 4, 2) := by decide +kernel
theorem dX12_take_70 : decode cX12_take 70 = .ok (.aload_n 0, 1) := by decide +kernel
theorem dX12_take_71 : decode cX12_take 71 = .ok (.getfield 169, 3) := by decide +kernel
theorem dX12_take_74 : decode cX12_take 74 = .ok (.iconst 0, 1) := by decide +kernel
theorem dX12_take_75 : decode cX12_take 75 = .ok (.invokevirtual 343, 3) := by decide +kernel
theorem dX12_take_78 : decode cX12_take 78 = .ok (.ifCond .ne 33, 3) := by decide +kernel
theorem dX12_take_81 : decode cX12_take 81 = .ok (.aload_n 0, 1) := by decide +kernel
theorem dX12_take_82 : decode cX12_take 82 = .ok (.aload_n 0, 1) := by decide +kernel
theorem dX12_take_83 : decode cX12_take 83 = .ok (.getfield 49, 3) := by decide +kernel
theorem dX12_take_86 : decode cX12_take 86 = .ok (.iload 4, 2) := by decide +kernel
theorem dX12_take_88 : decode cX12_take 88 = .ok (.aload_n 0, 1) := by decide +kernel
theorem dX12_take_89 : decode cX12_take 89 = .ok (.getfield 169, 3) := by decide +kernel
theorem dX12_take_92 : decode cX12_take 92 = .ok (.iconst 0, 1) := by decide +kernel
theorem dX12_take_93 : decode cX12_take 93 = .ok (.invokevirtual 346, 3) := by decide +kernel
theorem dX12_take_96 : decode cX12_take 96 = .ok (.aload_n 0, 1) := by decide +kernel
theorem dX12_take_97 : decode cX12_take 97 = .ok (.getfield 49, 3) := by decide +kernel
theorem dX12_take_100 : decode cX12_take 100 = .ok (.iload 4, 2) := by decide +kernel
theorem dX12_take_102 : decode cX12_take 102 = .ok (.iconst 3, 1) := by decide +kernel
theorem dX12_take_103 : decode cX12_take 103 = .ok (.iadd, 1) := by decide +kernel
theorem dX12_take_104 : decode cX12_take 104 = .ok (.dup2, 1) := by decide +kernel
theorem dX12_take_105 : decode cX12_take 105 = .ok (.iaload, 1) := by decide +kernel
theorem dX12_take_106 : decode cX12_take 106 = .ok (.iconst 1, 1) := by decide +kernel
theorem dX12_take_107 : decode cX12_take 107 = .ok (.iadd, 1) := by decide +kernel
theorem dX12_take_108 : decode cX12_take 108 = .ok (.iastore, 1) := by decide +kernel
theorem dX12_take_109 : decode cX12_take 109 = .ok (.iconst 0, 1) := by decide +kernel
theorem dX12_take_110 : decode cX12_take 110 = .ok (.ireturn, 1) := by decide +kernel
theorem dX12_take_111 : decode cX12_take 111 = .ok (.aload_n 0, 1) := by decide +kernel
theorem dX12_take_112 : decode cX12_take 112 = .ok (.getfield 169, 3) := by decide +kernel
theorem dX12_take_115 : decode cX12_take 115 = .ok (.iconst 0, 1) := by decide +kernel
theorem dX12_take_116 : decode cX12_take 116 = .ok (.iaload, 1) := by decide +kernel
theorem dX12_take_117 : decode cX12_take 117 = .ok (.aload_n 0, 1) := by decide +kernel
theorem dX12_take_118 : decode cX12_take 118 = .ok (.getfield 49, 3) := by decide +kernel
theorem dX12_take_121 : decode cX12_take 121 = .ok (.iload 4, 2) := by decide +kernel
theorem dX12_take_123 : decode cX12_take 123 = .ok (.iaload, 1) := by decide +kernel
theorem dX12_take_124 : decode cX12_take 124 = .ok (.if_icmp .gt 5, 3) := by decide +kernel
theorem dX12_take_127 : decode cX12_take 127 = .ok (.iconst 1, 1) := by decide +kernel
theorem dX12_take_128 : decode cX12_take 128 = .ok (.ireturn, 1) := by decide +kernel
theorem dX12_take_129 : decode cX12_take 129 = .ok (.aload_n 0, 1) := by decide +kernel
theorem dX12_take_130 : decode cX12_take 130 = .ok (.getfield 169, 3) := by decide +kernel
theorem dX12_take_133 : decode cX12_take 133 = .ok (.iconst 0, 1) := by decide +kernel
theorem dX12_take_134 : decode cX12_take 134 = .ok (.aload_n 0, 1) := by decide +kernel
theorem dX12_take_135 : decode cX12_take 135 = .ok (.getfield 49, 3) := by decide +kernel
theorem dX12_take_138 : decode cX12_take 138 = .ok (.iload 4, 2) := by decide +kernel
theorem dX12_take_140 : decode cX12_take 140 = .ok (.iconst 0, 1) := by decide +kernel
theorem dX12_take_141 : decode cX12_take 141 = .ok (.invokestatic 339, 3) := by decide +kernel
theorem dX12_take_144 : decode cX12_take 144 = .ok (.aload_n 0, 1) := by decide +kernel
theorem dX12_take_145 : decode cX12_take 145 = .ok (.getfield 52, 3) := by decide +kernel
theorem dX12_take_148 : decode cX12_take 148 = .ok (.iload_n 1, 1) := by decide +kernel
theorem dX12_take_149 : decode cX12_take 149 = .ok (.iconst 1, 1) := by decide +kernel
theorem dX12_take_150 : decode cX12_take 150 = .ok (.bastore, 1) := by decide +kernel
theorem dX12_take_151 : decode cX12_take 151 = .ok (.iconst 1, 1) := by decide +kernel
theorem dX12_take_152 : decode cX12_take 152 = .ok (.ireturn, 1) := by decide +kernel
theorem dX12_talk_0 : decode cX12_talk 0 = .ok (.aload_n 0, 1) := by decide +kernel
theorem dX12_talk_1 : decode cX12_talk 1 = .ok (.iload_n 1, 1) := by decide +kernel
theorem dX12_talk_2 : decode cX12_talk 2 = .ok (.invokevirtual 322, 3) := by decide +kernel
theorem dX12_talk_5 : decode cX12_talk 5 = .ok (.ifCond .eq 34, 3) := by decide +kernel
theorem dX12_talk_8 : decode cX12_talk 8 = .ok (.aload_n 0, 1) := by decide +kernel
theorem dX12_talk_9 : decode cX12_talk 9 = .ok (.iload_n 2, 1) := by decide +kernel
theorem dX12_talk_10 : decode cX12_talk 10 = .ok (.invokevirtual 322, 3) := by decide +kernel
theorem dX12_talk_13 : decode cX12_talk 13 = .ok (.ifCond .eq 26, 3) := by decide +kernel
theorem dX12_talk_16 : decode cX12_talk 16 = .ok (.iload_n 1, 1) := by decide +kernel
theorem dX12_talk_17 : decode cX12_talk 17 = .ok (.iload_n 2, 1) := by decide +kernel
theorem dX12_talk_18 : decode cX12_talk 18 = .ok (.if_icmp .eq 21, 3) := by decide +kernel
theorem dX12_talk_21 : decode cX12_talk 21 = .ok (.aload_n 0, 1) := by decide +kernel
theorem dX12_talk_22 : decode cX12_talk 22 = .ok (.getfield 52, 3) := by decide +kernel
theorem dX12_talk_25 : decode cX12_talk 25 = .ok (.iload_n 1, 1) := by decide +kernel
theorem dX12_talk_26 : decode cX12_talk 26 = .ok (.baload, 1) := by decide +kernel
theorem dX12_talk_27 : decode cX12_talk 27 = .ok (.ifCond .eq 12, 3) := by decide +kernel
theorem dX12_talk_30 : decode cX12_talk 30 = .ok (.aload_n 0, 1) := by decide +kernel
theorem dX12_talk_31 : decode cX12_talk 31 = .ok (.getfield 52, 3) := by decide +kernel
theorem dX12_talk_34 : decode cX12_talk 34 = .ok (.iload_n 2, 1) := by decide +kernel
theorem dX12_talk_35 : decode cX12_talk 35 = .ok (.baload, 1) := by decide +kernel
theorem dX12_talk_36 : decode cX12_talk 36 = .ok (.ifCond .ne 5, 3) := by decide +kernel
theorem dX12_talk_39 : decode cX12_talk 39 = .ok (.iconst (-1), 1) := by decide +kernel
theorem dX12_talk_40 : decode cX12_talk 40 = .ok (.ireturn, 1) := by decide +kernel
theorem dX12_talk_41 : decode cX12_talk 41 = .ok (.bipush 28, 2) := by decide +kernel
theorem dX12_talk_43 : decode cX12_talk 43 = .ok (.iload_n 1, 1) := by decide +kernel
theorem dX12_talk_44 : decode cX12_talk 44 = .ok (.imul, 1) := by decide +kernel
theorem dX12_talk_45 : decode cX12_talk 45 = .ok (.istore_n 3, 1) := by decide +kernel
theorem dX12_talk_46 : decode cX12_talk 46 = .ok (.bipush 28, 2) := by decide +kernel
theorem dX12_talk_48 : decode cX12_talk 48 = .ok (.iload_n 2, 1) := by decide +kernel
theorem dX12_talk_49 : decode cX12_talk 49 = .ok (.imul, 1) := by decide +kernel
theorem dX12_talk_50 : decode cX12_talk 50 = .ok (.istore 4, 2) := by decide +kernel
theorem dX12_talk_52 : decode cX12_talk 52 = .ok (.aload_n 0, 1) := by decide +kernel
theorem dX12_talk_53 : decode cX12_talk 53 = .ok (.getfield 49, 3) := by decide +kernel
theorem dX12_talk_56 : decode cX12_talk 56 = .ok (.iload_n 3, 1) := by decide +kernel
theorem dX12_talk_57 : decode cX12_talk 57 = .ok (.iconst 2, 1) := by decide +kernel
theorem dX12_talk_58 : decode cX12_talk 58 = .ok (.iadd, 1) := by decide +kernel
theorem dX12_talk_59 : decode cX12_talk 59 = .ok (.iaload, 1) := by decide +kernel
theorem dX12_talk_60 : decode cX12_talk 60 = .ok (.aload_n 0, 1) := by decide +kernel
theorem dX12_talk_61 : decode cX12_talk 61 = .ok (.getfield 49, 3) := by decide +kernel
theorem dX12_talk_64 : decode cX12_talk 64 = .ok (.iload 4, 2) := by decide +kernel
theorem dX12_talk_66 : decode cX12_talk 66 = .ok (.iconst 2, 1) := by decide +kernel
theorem dX12_talk_67 : decode cX12_talk 67 = .ok (.iadd, 1) := by decide +kernel
theorem dX12_talk_68 : decode cX12_talk 68 = .ok (.iaload, 1) := by decide +kernel
theorem dX12_talk_69 : decode cX12_talk 69 = .ok (.if_icmp .eq 5, 3) := by decide +kernel
theorem dX12_talk_72 : decode cX12_talk 72 = .ok (.iconst (-1), 1) := by decide +kernel
theorem dX12_talk_73 : decode cX12_talk 73 = .ok (.ireturn, 1) := by decide +kernel
theorem dX12_talk_74 : decode cX12_talk 74 = .ok (.aload_n 0, 1) := by decide +kernel
theorem dX12_talk_75 : decode cX12_talk 75 = .ok (.aload_n 0, 1) := by decide +kernel
theorem dX12_talk_76 : decode cX12_talk 76 = .ok (.getfield 49, 3) := by decide +kernel
theorem dX12_talk_79 : decode cX12_talk 79 = .ok (.iload_n 3, 1) := by decide +kernel
theorem dX12_talk_80 : decode cX12_talk 80 = .ok (.aload_n 0, 1) := by decide +kernel
theorem dX12_talk_81 : decode cX12_talk 81 = .ok (.getfield 49, 3) := by decide +kernel
theorem dX12_talk_84 : decode cX12_talk 84 = .ok (.iload 4, 2) := by decide +kernel
theorem dX12_talk_86 : decode cX12_talk 86 = .ok (.invokevirtual 343, 3) := by decide +kernel
theorem dX12_talk_89 : decode cX12_talk 89 = .ok (.ifCond .ne 45, 3) := by decide +kernel
theorem dX12_talk_92 : decode cX12_talk 92 = .ok (.aload_n 0, 1) := by decide +kernel
theorem dX12_talk_93 : decode cX12_talk 93 = .ok (.aload_n 0, 1) := by decide +kernel
theorem dX12_talk_94 : decode cX12_talk 94 = .ok (.getfield 49, 3) := by decide +kernel
theorem dX12_talk_97 : decode cX12_talk 97 = .ok (.iload_n 3, 1) := by decide +kernel
theorem dX12_talk_98 : decode cX12_talk 98 = .ok (.aload_n 0, 1) := by decide +kernel
theorem dX12_talk_99 : decode cX12_talk 99 = .ok (.getfield 49, 3) := by decide +kernel
theorem dX12_talk_102 : decode cX12_talk 102 = .ok (.iload 4, 2) := by decide +kernel
theorem dX12_talk_104 : decode cX12_talk 104 = .ok (.invokevirtual 346, 3) := by decide +kernel
theorem dX12_talk_107 : decode cX12_talk 107 = .ok (.aload_n 0, 1) := by decide +kernel
theorem dX12_talk_108 : decode cX12_talk 108 = .ok (.getfield 49, 3) := by decide +kernel
theorem dX12_talk_111 : decode cX12_talk 111 = .ok (.iload_n 3, 1) := by decide +kernel
theorem dX12_talk_112 : decode cX12_talk 112 = .ok (.iconst 3, 1) := by decide +kernel
theorem dX12_talk_113 : decode cX12_talk 113 = .ok (.iadd, 1) := by decide +kernel
theorem dX12_talk_114 : decode cX12_talk 114 = .ok (.dup2, 1) := by decide +kernel
theorem dX12_talk_115 : decode cX12_talk 115 = .ok (.iaload, 1) := by decide +kernel
theorem dX12_talk_116 : decode cX12_talk 116 = .ok (.iconst 1, 1) := by decide +kernel
theorem dX12_talk_117 : decode cX12_talk 117 = .ok (.iadd, 1) := by decide +kernel
theorem dX12_talk_118 : decode cX12_talk 118 = .ok (.iastore, 1) := by decide +kernel
theorem dX12_talk_119 : decode cX12_talk 119 = .ok (.aload_n 0, 1) := by decide +kernel
theorem dX12_talk_120 : decode cX12_talk 120 = .ok (.getfield 49, 3) := by decide +kernel
theorem dX12_talk_123 : decode cX12_talk 123 = .ok (.iload 4, 2) := by decide +kernel
theorem dX12_talk_125 : decode cX12_talk 125 = .ok (.iconst 3, 1) := by decide +kernel
theorem dX12_talk_126 : decode cX12_talk 126 = .ok (.iadd, 1) := by decide +kernel
theorem dX12_talk_127 : decode cX12_talk 127 = .ok (.dup2, 1) := by decide +kernel
theorem dX12_talk_128 : decode cX12_talk 128 = .ok (.iaload, 1) := by decide +kernel
theorem dX12_talk_129 : decode cX12_talk 129 = .ok (.iconst 1, 1) := by decide +kernel
theorem dX12_talk_130 : decode cX12_talk 130 = .ok (.iadd, 1) := by decide +kernel
theorem dX12_talk_131 : decode cX12_talk 131 = .ok (.iastore, 1) := by decide +kernel
theorem dX12_talk_132 : decode cX12_talk 132 = .ok (.iconst 0, 1) := by decide +kernel
theorem dX12_talk_133 : decode cX12_talk 133 = .ok (.ireturn, 1) := by decide +kernel
theorem dX12_talk_134 : decode cX12_talk 134 = .ok (.aload_n 0, 1) := by decide +kernel
theorem dX12_talk_135 : decode cX12_talk 135 = .ok (.getfield 49, 3) := by decide +kernel
theorem dX12_talk_138 : decode cX12_talk 138 = .ok (.iload_n 3, 1) := by decide +kernel
theorem dX12_talk_139 : decode cX12_talk 139 = .ok (.iaload, 1) := by decide +kernel
theorem dX12_talk_140 : decode cX12_talk 140 = .ok (.aload_n 0, 1) := by decide +kernel
theorem dX12_talk_141 : decode cX12_talk 141 = .ok (.getfield 49, 3) := by decide +kernel
theorem dX12_talk_144 : decode cX12_talk 144 = .ok (.iload 4, 2) := by decide +kernel
theorem dX12_talk_146 : decode cX12_talk 146 = .ok (.iaload, 1) := by decide +kernel
theorem dX12_talk_147 : decode cX12_talk 147 = .ok (.if_icmp .ge 21, 3) := by decide +kernel
theorem dX12_talk_150 : decode cX12_talk 150 = .ok (.aload_n 0, 1) := by decide +kernel
theorem dX12_talk_151 : decode cX12_talk 151 = .ok (.getfield 49, 3) := by decide +kernel
theorem dX12_talk_154 : decode cX12_talk 154 = .ok (.iload 4, 2) := by decide +kernel
theorem dX12_talk_156 : decode cX12_talk 156 = .ok (.aload_n 0, 1) := by decide +kernel
theorem dX12_talk_157 : decode cX12_talk 157 = .ok (.getfield 49, 3) := by decide +kernel
theorem dX12_talk_160 : decode cX12_talk 160 = .ok (.iload_n 3, 1) := by decide +kernel
theorem dX12_talk_161 : decode cX12_talk 161 = .ok (.iconst 0, 1) := by decide +kernel
theorem dX12_talk_162 : decode cX12_talk 162 = .ok (.invokestatic 339, 3) := by decide +kernel
theorem dX12_talk_165 : decode cX12_talk 165 = .ok (.goto 34, 3) := by decide +kernel
theorem dX12_talk_168 : decode cX12_talk 168 = .ok (.aload_n 0, 1) := by decide +kernel
theorem dX12_talk_169 : decode cX12_talk 169 = .ok (.getfield 49, 3) := by decide +kernel
theorem dX12_talk_172 : decode cX12_talk 172 = .ok (.iload 4, 2) := by decide +kernel
theorem dX12_talk_174 : decode cX12_talk 174 = .ok (.iaload, 1) := by decide +kernel
theorem dX12_talk_175 : decode cX12_talk 175 = .ok (.aload_n 0, 1) := by decide +kernel
theorem dX12_talk_176 : decode cX12_talk 176 = .ok (.getfield 49, 3) := by decide +kernel
theorem dX12_talk_179 : decode cX12_talk 179 = .ok (.iload_n 3, 1) := by decide +kernel
theorem dX12_talk_180 : decode cX12_talk 180 = .ok (.iaload, 1) := by decide +kernel
theorem dX12_talk_181 : decode cX12_talk 181 = .ok (.if_icmp .ge 18, 3) := by decide +kernel
theorem dX12_talk_184 : decode cX12_talk 184 = .ok (.aload_n 0, 1) := by decide +kernel
theorem dX12_talk_185 : decode cX12_talk 185 = .ok (.getfield 49, 3) := by decide +kernel
theorem dX12_talk_188 : decode cX12_talk 188 = .ok (.iload_n 3, 1) := by decide +kernel
theorem dX12_talk_189 : decode cX12_talk 189 = .ok (.aload_n 0, 1) := by decide +kernel
theorem dX12_talk_190 : decode cX12_talk 190 = .ok (.getfield 49, 3) := by decide +kernel
theorem dX12_talk_193 : decode cX12_talk 193 = .ok (.iload 4, 2) := by decide +kernel
theorem dX12_talk_195 : decode cX12_talk 195 = .ok (.iconst 0, 1) := by decide +kernel
theorem dX12_talk_196 : decode cX12_talk 196 = .ok (.invokestatic 339, 3) := by decide +kernel
theorem dX12_talk_199 : decode cX12_talk 199 = .ok (.iconst 1, 1) := by decide +kernel
theorem dX12_talk_200 : decode cX12_talk 200 = .ok (.ireturn, 1) := by decide +kernel
theorem dX12_reader_0 : decode cX12_reader 0 = .ok (.aload_n 0, 1) := by decide +kernel
theorem dX12_reader_1 : decode cX12_reader 1 = .ok (.iload_n 1, 1) := by decide +kernel
theorem dX12_reader_2 : decode cX12_reader 2 = .ok (.invokevirtual 322, 3) := by decide +kernel
theorem dX12_reader_5 : decode cX12_reader 5 = .ok (.ifCond .ne 5, 3) := by decide +kernel
theorem dX12_reader_8 : decode cX12_reader 8 = .ok (.iconst (-1), 1) := by decide +kernel
theorem dX12_reader_9 : decode cX12_reader 9 = .ok (.ireturn, 1) := by decide +kernel
theorem dX12_reader_10 : decode cX12_reader 10 = .ok (.iload_n 2, 1) := by decide +kernel
theorem dX12_reader_11 : decode cX12_reader 11 = .ok (.iconst 3, 1) := by decide +kernel
theorem dX12_reader_12 : decode cX12_reader 12 = .ok (.if_icmp .ne 15, 3) := by decide +kernel
theorem dX12_reader_15 : decode cX12_reader 15 = .ok (.aload_n 0, 1) := by decide +kernel
theorem dX12_reader_16 : decode cX12_reader 16 = .ok (.getfield 49, 3) := by decide +kernel
theorem dX12_reader_19 : decode cX12_reader 19 = .ok (.bipush 28, 2) := by decide +kernel
theorem dX12_reader_21 : decode cX12_reader 21 = .ok (.iload_n 1, 1) := by decide +kernel
theorem dX12_reader_22 : decode cX12_reader 22 = .ok (.imul, 1) := by decide +kernel
theorem dX12_reader_23 : decode cX12_reader 23 = .ok (.iconst 3, 1) := by decide +kernel
theorem dX12_reader_24 : decode cX12_reader 24 = .ok (.iadd, 1) := by decide +kernel
theorem dX12_reader_25 : decode cX12_reader 25 = .ok (.iaload, 1) := by decide +kernel
theorem dX12_reader_26 : decode cX12_reader 26 = .ok (.ireturn, 1) := by decide +kernel
theorem dX12_reader_27 : decode cX12_reader 27 = .ok (.iload_n 2, 1) := by decide +kernel
theorem dX12_reader_28 : decode cX12_reader 28 = .ok (.ifCond .lt 31, 3) := by decide +kernel
theorem dX12_reader_31 : decode cX12_reader 31 = .ok (.iload_n 2, 1) := by decide +kernel
theorem dX12_reader_32 : decode cX12_reader 32 = .ok (.iconst 3, 1) := by decide +kernel
theorem dX12_reader_33 : decode cX12_reader 33 = .ok (.if_icmp .ge 26, 3) := by decide +kernel
theorem dX12_reader_36 : decode cX12_reader 36 = .ok (.aload_n 0, 1) := by decide +kernel
theorem dX12_reader_37 : decode cX12_reader 37 = .ok (.getfield 52, 3) := by decide +kernel
theorem dX12_reader_40 : decode cX12_reader 40 = .ok (.iload_n 1, 1) := by decide +kernel
theorem dX12_reader_41 : decode cX12_reader 41 = .ok (.baload, 1) := by decide +kernel
theorem dX12_reader_42 : decode cX12_reader 42 = .ok (.ifCond .eq 17, 3) := by decide +kernel
theorem dX12_reader_45 : decode cX12_reader 45 = .ok (.aload_n 0, 1) := by decide +kernel
theorem dX12_reader_46 : decode cX12_reader 46 = .ok (.getfield 49, 3) := by decide +kernel
theorem dX12_reader_49 : decode cX12_reader 49 = .ok (.bipush 28, 2) := by decide +kernel
theorem dX12_reader_51 : decode cX12_reader 51 = .ok (.iload_n 1, 1) := by decide +kernel
theorem dX12_reader_52 : decode cX12_reader 52 = .ok (.imul, 1) := by decide +kernel
theorem dX12_reader_53 : decode cX12_reader 53 = .ok (.iload_n 2, 1) := by decide +kernel
theorem dX12_reader_54 : decode cX12_reader 54 = .ok (.iadd, 1) := by decide +kernel
theorem dX12_reader_55 : decode cX12_reader 55 = .ok (.iaload, 1) := by decide +kernel
theorem dX12_reader_56 : decode cX12_reader 56 = .ok (.goto 4, 3) := by decide +kernel
theorem dX12_reader_59 : decode cX12_reader 59 = .ok (.iconst (-1), 1) := by decide +kernel
theorem dX12_reader_60 : decode cX12_reader 60 = .ok (.ireturn, 1) := by decide +kernel
theorem dX12_blame__0 : decode cX12_blame_ 0 = .ok (.iload_n 1, 1) := by decide +kernel
theorem dX12_blame__1 : decode cX12_blame_ 1 = .ok (.ifCond .lt 11, 3) := by decide +kernel
theorem dX12_blame__4 : decode cX12_blame_ 4 = .ok (.iload_n 1, 1) := by decide +kernel
theorem dX12_blame__5 : decode cX12_blame_ 5 = .ok (.aload_n 0, 1) := by decide +kernel
theorem dX12_blame__6 : decode cX12_blame_ 6 = .ok (.getfield 336, 3) := by decide +kernel
theorem dX12_blame__9 : decode cX12_blame_ 9 = .ok (.if_icmp .lt 5, 3) := by decide +kernel
theorem dX12_blame__12 : decode cX12_blame_ 12 = .ok (.iconst (-1), 1) := by decide +kernel
theorem dX12_blame__13 : decode cX12_blame_ 13 = .ok (.ireturn, 1) := by decide +kernel
theorem dX12_blame__14 : decode cX12_blame_ 14 = .ok (.bipush 56, 2) := by decide +kernel
theorem dX12_blame__16 : decode cX12_blame_ 16 = .ok (.iload_n 1, 1) := by decide +kernel
theorem dX12_blame__17 : decode cX12_blame_ 17 = .ok (.imul, 1) := by decide +kernel
theorem dX12_blame__18 : decode cX12_blame_ 18 = .ok (.istore_n 3, 1) := by decide +kernel
theorem dX12_blame__19 : decode cX12_blame_ 19 = .ok (.iload_n 3, 1) := by decide +kernel
theorem dX12_blame__20 : decode cX12_blame_ 20 = .ok (.bipush 28, 2) := by decide +kernel
theorem dX12_blame__22 : decode cX12_blame_ 22 = .ok (.iadd, 1) := by decide +kernel
theorem dX12_blame__23 : decode cX12_blame_ 23 = .ok (.istore 4, 2) := by decide +kernel
theorem dX12_blame__25 : decode cX12_blame_ 25 = .ok (.iload_n 2, 1) := by decide +kernel
theorem dX12_blame__26 : decode cX12_blame_ 26 = .ok (.tableswitch 133 0 7 #[46, 53, 61, 70, 93, 102, 112, 122], 46) := by decide +kernel
theorem dX12_blame__72 : decode cX12_blame_ 72 = .ok (.aload_n 0, 1) := by decide +kernel
theorem dX12_blame__73 : decode cX12_blame_ 73 = .ok (.getfield 55, 3) := by decide +kernel
theorem dX12_blame__76 : decode cX12_blame_ 76 = .ok (.iload_n 3, 1) := by decide +kernel
theorem dX12_blame__77 : decode cX12_blame_ 77 = .ok (.iaload, 1) := by decide +kernel
theorem dX12_blame__78 : decode cX12_blame_ 78 = .ok (.ireturn, 1) := by decide +kernel
theorem dX12_blame__79 : decode cX12_blame_ 79 = .ok (.aload_n 0, 1) := by decide +kernel
theorem dX12_blame__80 : decode cX12_blame_ 80 = .ok (.getfield 55, 3) := by decide +kernel
theorem dX12_blame__83 : decode cX12_blame_ 83 = .ok (.iload 4, 2) := by decide +kernel
theorem dX12_blame__85 : decode cX12_blame_ 85 = .ok (.iaload, 1) := by decide +kernel
theorem dX12_blame__86 : decode cX12_blame_ 86 = .ok (.ireturn, 1) := by decide +kernel
theorem dX12_blame__87 : decode cX12_blame_ 87 = .ok (.aload_n 0, 1) := by decide +kernel
theorem dX12_blame__88 : decode cX12_blame_ 88 = .ok (.getfield 55, 3) := by decide +kernel
theorem dX12_blame__91 : decode cX12_blame_ 91 = .ok (.iload_n 3, 1) := by decide +kernel
theorem dX12_blame__92 : decode cX12_blame_ 92 = .ok (.iconst 2, 1) := by decide +kernel
theorem dX12_blame__93 : decode cX12_blame_ 93 = .ok (.iadd, 1) := by decide +kernel
theorem dX12_blame__94 : decode cX12_blame_ 94 = .ok (.iaload, 1) := by decide +kernel
theorem dX12_blame__95 : decode cX12_blame_ 95 = .ok (.ireturn, 1) := by decide +kernel
theorem dX12_blame__96 : decode cX12_blame_ 96 = .ok (.aload_n 0, 1) := by decide +kernel
theorem dX12_blame__97 : decode cX12_blame_ 97 = .ok (.iload_n 3, 1) := by decide +kernel
theorem dX12_blame__98 : decode cX12_blame_ 98 = .ok (.invokevirtual 350, 3) := by decide +kernel
theorem dX12_blame__101 : decode cX12_blame_ 101 = .ok (.ifCond .eq 16, 3) := by decide +kernel
theorem dX12_blame__104 : decode cX12_blame_ 104 = .ok (.aload_n 0, 1) := by decide +kernel
theorem dX12_blame__105 : decode cX12_blame_ 105 = .ok (.iload 4, 2) := by decide +kernel
theorem dX12_blame__107 : decode cX12_blame_ 107 = .ok (.invokevirtual 350, 3) := by decide +kernel
theorem dX12_blame__110 : decode cX12_blame_ 110 = .ok (.ifCond .eq 7, 3) := by decide +kernel
theorem dX12_blame__113 : decode cX12_blame_ 113 = .ok (.iconst 1, 1) := by decide +kernel
theorem dX12_blame__114 : decode cX12_blame_ 114 = .ok (.goto 4, 3) := by decide +kernel
theorem dX12_blame__117 : decode cX12_blame_ 117 = .ok (.iconst 0, 1) := by decide +kernel
theorem dX12_blame__118 : decode cX12_blame_ 118 = .ok (.ireturn, 1) := by decide +kernel
theorem dX12_blame__119 : decode cX12_blame_ 119 = .ok (.aload_n 0, 1) := by decide +kernel
theorem dX12_blame__120 : decode cX12_blame_ 120 = .ok (.getfield 55, 3) := by decide +kernel
theorem dX12_blame__123 : decode cX12_blame_ 123 = .ok (.iload_n 3, 1) := by decide +kernel
theorem dX12_blame__124 : decode cX12_blame_ 124 = .ok (.iconst 4, 1) := by decide +kernel
theorem dX12_blame__125 : decode cX12_blame_ 125 = .ok (.iadd, 1) := by decide +kernel
theorem dX12_blame__126 : decode cX12_blame_ 126 = .ok (.iaload, 1) := by decide +kernel
theorem dX12_blame__127 : decode cX12_blame_ 127 = .ok (.ireturn, 1) := by decide +kernel
theorem dX12_blame__128 : decode cX12_blame_ 128 = .ok (.aload_n 0, 1) := by decide +kernel
theorem dX12_blame__129 : decode cX12_blame_ 129 = .ok (.getfield 55, 3) := by decide +kernel
theorem dX12_blame__132 : decode cX12_blame_ 132 = .ok (.iload 4, 2) := by decide +kernel
theorem dX12_blame__134 : decode cX12_blame_ 134 = .ok (.iconst 4, 1) := by decide +kernel
theorem dX12_blame__135 : decode cX12_blame_ 135 = .ok (.iadd, 1) := by decide +kernel
theorem dX12_blame__136 : decode cX12_blame_ 136 = .ok (.iaload, 1) := by decide +kernel
theorem dX12_blame__137 : decode cX12_blame_ 137 = .ok (.ireturn, 1) := by decide +kernel
theorem dX12_blame__138 : decode cX12_blame_ 138 = .ok (.aload_n 0, 1) := by decide +kernel
theorem dX12_blame__139 : decode cX12_blame_ 139 = .ok (.getfield 55, 3) := by decide +kernel
theorem dX12_blame__142 : decode cX12_blame_ 142 = .ok (.iload_n 3, 1) := by decide +kernel
theorem dX12_blame__143 : decode cX12_blame_ 143 = .ok (.bipush 12, 2) := by decide +kernel
theorem dX12_blame__145 : decode cX12_blame_ 145 = .ok (.iadd, 1) := by decide +kernel
theorem dX12_blame__146 : decode cX12_blame_ 146 = .ok (.iaload, 1) := by decide +kernel
theorem dX12_blame__147 : decode cX12_blame_ 147 = .ok (.ireturn, 1) := by decide +kernel
theorem dX12_blame__148 : decode cX12_blame_ 148 = .ok (.aload_n 0, 1) := by decide +kernel
theorem dX12_blame__149 : decode cX12_blame_ 149 = .ok (.getfield 55, 3) := by decide +kernel
theorem dX12_blame__152 : decode cX12_blame_ 152 = .ok (.iload 4, 2) := by decide +kernel
theorem dX12_blame__154 : decode cX12_blame_ 154 = .ok (.bipush 12, 2) := by decide +kernel
theorem dX12_blame__156 : decode cX12_blame_ 156 = .ok (.iadd, 1) := by decide +kernel
theorem dX12_blame__157 : decode cX12_blame_ 157 = .ok (.iaload, 1) := by decide +kernel
theorem dX12_blame__158 : decode cX12_blame_ 158 = .ok (.ireturn, 1) := by decide +kernel
theorem dX12_blame__159 : decode cX12_blame_ 159 = .ok (.iconst (-1), 1) := by decide +kernel
theorem dX12_blame__160 : decode cX12_blame_ 160 = .ok (.ireturn, 1) := by decide +kernel
theorem dX12_isMarked_0 : decode cX12_isMarked 0 = .ok (.aload_n 0, 1) := by decide +kernel
theorem dX12_isMarked_1 : decode cX12_isMarked 1 = .ok (.aload_n 0, 1) := by decide +kernel
theorem dX12_isMarked_2 : decode cX12_isMarked 2 = .ok (.getfield 55, 3) := by decide +kernel
theorem dX12_isMarked_5 : decode cX12_isMarked 5 = .ok (.iload_n 1, 1) := by decide +kernel
theorem dX12_isMarked_6 : decode cX12_isMarked 6 = .ok (.iconst 2, 1) := by decide +kernel
theorem dX12_isMarked_7 : decode cX12_isMarked 7 = .ok (.iadd, 1) := by decide +kernel
theorem dX12_isMarked_8 : decode cX12_isMarked 8 = .ok (.iaload, 1) := by decide +kernel
theorem dX12_isMarked_9 : decode cX12_isMarked 9 = .ok (.aload_n 0, 1) := by decide +kernel
theorem dX12_isMarked_10 : decode cX12_isMarked 10 = .ok (.getfield 55, 3) := by decide +kernel
theorem dX12_isMarked_13 : decode cX12_isMarked 13 = .ok (.iload_n 1, 1) := by decide +kernel
theorem dX12_isMarked_14 : decode cX12_isMarked 14 = .ok (.iaload, 1) := by decide +kernel
theorem dX12_isMarked_15 : decode cX12_isMarked 15 = .ok (.aload_n 0, 1) := by decide +kernel
theorem dX12_isMarked_16 : decode cX12_isMarked 16 = .ok (.getfield 55, 3) := by decide +kernel
theorem dX12_isMarked_19 : decode cX12_isMarked 19 = .ok (.iload_n 1, 1) := by decide +kernel
theorem dX12_isMarked_20 : decode cX12_isMarked 20 = .ok (.iconst 4, 1) := by decide +kernel
theorem dX12_isMarked_21 : decode cX12_isMarked 21 = .ok (.iadd, 1) := by decide +kernel
theorem dX12_isMarked_22 : decode cX12_isMarked 22 = .ok (.iload_n 1, 1) := by decide +kernel
theorem dX12_isMarked_23 : decode cX12_isMarked 23 = .ok (.bipush 12, 2) := by decide +kernel
theorem dX12_isMarked_25 : decode cX12_isMarked 25 = .ok (.iadd, 1) := by decide +kernel
theorem dX12_isMarked_26 : decode cX12_isMarked 26 = .ok (.invokevirtual 263, 3) := by decide +kernel
theorem dX12_isMarked_29 : decode cX12_isMarked 29 = .ok (.aload_n 0, 1) := by decide +kernel
theorem dX12_isMarked_30 : decode cX12_isMarked 30 = .ok (.getfield 130, 3) := by decide +kernel
theorem dX12_isMarked_33 : decode cX12_isMarked 33 = .ok (.iconst 0, 1) := by decide +kernel
theorem dX12_isMarked_34 : decode cX12_isMarked 34 = .ok (.aload_n 0, 1) := by decide +kernel
theorem dX12_isMarked_35 : decode cX12_isMarked 35 = .ok (.getfield 55, 3) := by decide +kernel
theorem dX12_isMarked_38 : decode cX12_isMarked 38 = .ok (.iload_n 1, 1) := by decide +kernel
theorem dX12_isMarked_39 : decode cX12_isMarked 39 = .ok (.bipush 20, 2) := by decide +kernel
theorem dX12_isMarked_41 : decode cX12_isMarked 41 = .ok (.iadd, 1) := by decide +kernel
theorem dX12_isMarked_42 : decode cX12_isMarked 42 = .ok (.invokestatic 318, 3) := by decide +kernel
theorem dX12_isMarked_45 : decode cX12_isMarked 45 = .ok (.ireturn, 1) := by decide +kernel
theorem dX12_smear_0 : decode cX12_smear 0 = .ok (.iload_n 1, 1) := by decide +kernel
theorem dX12_smear_1 : decode cX12_smear 1 = .ok (.ifCond .lt 21, 3) := by decide +kernel
theorem dX12_smear_4 : decode cX12_smear 4 = .ok (.iload_n 1, 1) := by decide +kernel
theorem dX12_smear_5 : decode cX12_smear 5 = .ok (.aload_n 0, 1) := by decide +kernel
theorem dX12_smear_6 : decode cX12_smear 6 = .ok (.getfield 336, 3) := by decide +kernel
theorem dX12_smear_9 : decode cX12_smear 9 = .ok (.if_icmp .ge 13, 3) := by decide +kernel
theorem dX12_smear_12 : decode cX12_smear 12 = .ok (.iload_n 2, 1) := by decide +kernel
theorem dX12_smear_13 : decode cX12_smear 13 = .ok (.ifCond .lt 9, 3) := by decide +kernel
theorem dX12_smear_16 : decode cX12_smear 16 = .ok (.iload_n 2, 1) := by decide +kernel
theorem dX12_smear_17 : decode cX12_smear 17 = .ok (.bipush 7, 2) := by decide +kernel
theorem dX12_smear_19 : decode cX12_smear 19 = .ok (.if_icmp .le 5, 3) := by decide +kernel
theorem dX12_smear_22 : decode cX12_smear 22 = .ok (.iconst 0, 1) := by decide +kernel
theorem dX12_smear_23 : decode cX12_smear 23 = .ok (.ireturn, 1) := by decide +kernel
theorem dX12_smear_24 : decode cX12_smear 24 = .ok (.aload_n 0, 1) := by decide +kernel
theorem dX12_smear_25 : decode cX12_smear 25 = .ok (.getfield 55, 3) := by decide +kernel
theorem dX12_smear_28 : decode cX12_smear 28 = .ok (.bipush 56, 2) := by decide +kernel
theorem dX12_smear_30 : decode cX12_smear 30 = .ok (.iload_n 1, 1) := by decide +kernel
theorem dX12_smear_31 : decode cX12_smear 31 = .ok (.imul, 1) := by decide +kernel
theorem dX12_smear_32 : decode cX12_smear 32 = .ok (.bipush 28, 2) := by decide +kernel
theorem dX12_smear_34 : decode cX12_smear 34 = .ok (.iadd, 1) := by decide +kernel
theorem dX12_smear_35 : decode cX12_smear 35 = .ok (.bipush 20, 2) := by decide +kernel
theorem dX12_smear_37 : decode cX12_smear 37 = .ok (.iadd, 1) := by decide +kernel
theorem dX12_smear_38 : decode cX12_smear 38 = .ok (.iload_n 2, 1) := by decide +kernel
theorem dX12_smear_39 : decode cX12_smear 39 = .ok (.iadd, 1) := by decide +kernel
theorem dX12_smear_40 : decode cX12_smear 40 = .ok (.dup2, 1) := by decide +kernel
theorem dX12_smear_41 : decode cX12_smear 41 = .ok (.iaload, 1) := by decide +kernel
theorem dX12_smear_42 : decode cX12_smear 42 = .ok (.iload_n 3, 1) := by decide +kernel
theorem dX12_smear_43 : decode cX12_smear 43 = .ok (.ixor, 1) := by decide +kernel
theorem dX12_smear_44 : decode cX12_smear 44 = .ok (.iastore, 1) := by decide +kernel
theorem dX12_smear_45 : decode cX12_smear 45 = .ok (.iconst 1, 1) := by decide +kernel
theorem dX12_smear_46 : decode cX12_smear 46 = .ok (.ireturn, 1) := by decide +kernel
theorem dX12_isWatcher_0 : decode cX12_isWatcher 0 = .ok (.iload_n 1, 1) := by decide +kernel
theorem dX12_isWatcher_1 : decode cX12_isWatcher 1 = .ok (.ifCond .lt 13, 3) := by decide +kernel
theorem dX12_isWatcher_4 : decode cX12_isWatcher 4 = .ok (.iload_n 1, 1) := by decide +kernel
theorem dX12_isWatcher_5 : decode cX12_isWatcher 5 = .ok (.bipush 8, 2) := by decide +kernel
theorem dX12_isWatcher_7 : decode cX12_isWatcher 7 = .ok (.if_icmp .ge 7, 3) := by decide +kernel
theorem dX12_isWatcher_10 : decode cX12_isWatcher 10 = .ok (.iconst 1, 1) := by decide +kernel
theorem dX12_isWatcher_11 : decode cX12_isWatcher 11 = .ok (.goto 4, 3) := by decide +kernel
theorem dX12_isWatcher_14 : decode cX12_isWatcher 14 = .ok (.iconst 0, 1) := by decide +kernel
theorem dX12_isWatcher_15 : decode cX12_isWatcher 15 = .ok (.ireturn, 1) := by decide +kernel
theorem dX12_watcher_0 : decode cX12_watcher 0 = .ok (.aload_n 0, 1) := by decide +kernel
theorem dX12_watcher_1 : decode cX12_watcher 1 = .ok (.iload_n 1, 1) := by decide +kernel
theorem dX12_watcher_2 : decode cX12_watcher 2 = .ok (.invokevirtual 353, 3) := by decide +kernel
theorem dX12_watcher_5 : decode cX12_watcher 5 = .ok (.ifCond .eq 11, 3) := by decide +kernel
theorem dX12_watcher_8 : decode cX12_watcher 8 = .ok (.aload_n 0, 1) := by decide +kernel
theorem dX12_watcher_9 : decode cX12_watcher 9 = .ok (.iload_n 2, 1) := by decide +kernel
theorem dX12_watcher_10 : decode cX12_watcher 10 = .ok (.invokevirtual 270, 3) := by decide +kernel
theorem dX12_watcher_13 : decode cX12_watcher 13 = .ok (.ifCond .ne 5, 3) := by decide +kernel
theorem dX12_watcher_16 : decode cX12_watcher 16 = .ok (.iconst 0, 1) := by decide +kernel
theorem dX12_watcher_17 : decode cX12_watcher 17 = .ok (.ireturn, 1) := by decide +kernel
theorem dX12_watcher_18 : decode cX12_watcher 18 = .ok (.aload_n 0, 1) := by decide +kernel
theorem dX12_watcher_19 : decode cX12_watcher 19 = .ok (.getfield 61, 3) := by decide +kernel
theorem dX12_watcher_22 : decode cX12_watcher 22 = .ok (.iload_n 1, 1) := by decide +kernel
theorem dX12_watcher_23 : decode cX12_watcher 23 = .ok (.iconst 1, 1) := by decide +kernel
theorem dX12_watcher_24 : decode cX12_watcher 24 = .ok (.bastore, 1) := by decide +kernel
theorem dX12_watcher_25 : decode cX12_watcher 25 = .ok (.aload_n 0, 1) := by decide +kernel
theorem dX12_watcher_26 : decode cX12_watcher 26 = .ok (.getfield 58, 3) := by decide +kernel
theorem dX12_watcher_29 : decode cX12_watcher 29 = .ok (.iconst 5, 1) := by decide +kernel
theorem dX12_watcher_30 : decode cX12_watcher 30 = .ok (.iload_n 1, 1) := by decide +kernel
theorem dX12_watcher_31 : decode cX12_watcher 31 = .ok (.imul, 1) := by decide +kernel
theorem dX12_watcher_32 : decode cX12_watcher 32 = .ok (.iload_n 2, 1) := by decide +kernel
theorem dX12_watcher_33 : decode cX12_watcher 33 = .ok (.iastore, 1) := by decide +kernel
theorem dX12_watcher_34 : decode cX12_watcher 34 = .ok (.aload_n 0, 1) := by decide +kernel
theorem dX12_watcher_35 : decode cX12_watcher 35 = .ok (.getfield 58, 3) := by decide +kernel
theorem dX12_watcher_38 : decode cX12_watcher 38 = .ok (.iconst 5, 1) := by decide +kernel
theorem dX12_watcher_39 : decode cX12_watcher 39 = .ok (.iload_n 1, 1) := by decide +kernel
theorem dX12_watcher_40 : decode cX12_watcher 40 = .ok (.imul, 1) := by decide +kernel
theorem dX12_watcher_41 : decode cX12_watcher 41 = .ok (.iconst 1, 1) := by decide +kernel
theorem dX12_watcher_42 : decode cX12_watcher 42 = .ok (.iadd, 1) := by decide +kernel
theorem dX12_watcher_43 : decode cX12_watcher 43 = .ok (.iload_n 3, 1) := by decide +kernel
theorem dX12_watcher_44 : decode cX12_watcher 44 = .ok (.iastore, 1) := by decide +kernel
theorem dX12_watcher_45 : decode cX12_watcher 45 = .ok (.aload_n 0, 1) := by decide +kernel
theorem dX12_watcher_46 : decode cX12_watcher 46 = .ok (.getfield 58, 3) := by decide +kernel
theorem dX12_watcher_49 : decode cX12_watcher 49 = .ok (.iconst 5, 1) := by decide +kernel
theorem dX12_watcher_50 : decode cX12_watcher 50 = .ok (.iload_n 1, 1) := by decide +kernel
theorem dX12_watcher_51 : decode cX12_watcher 51 = .ok (.imul, 1) := by decide +kernel
theorem dX12_watcher_52 : decode cX12_watcher 52 = .ok (.iconst 2, 1) := by decide +kernel
theorem dX12_watcher_53 : decode cX12_watcher 53 = .ok (.iadd, 1) := by decide +kernel
theorem dX12_watcher_54 : decode cX12_watcher 54 = .ok (.iload 4, 2) := by decide +kernel
theorem dX12_watcher_56 : decode cX12_watcher 56 = .ok (.iastore, 1) := by decide +kernel
theorem dX12_watcher_57 : decode cX12_watcher 57 = .ok (.aload_n 0, 1) := by decide +kernel
theorem dX12_watcher_58 : decode cX12_watcher 58 = .ok (.getfield 58, 3) := by decide +kernel
theorem dX12_watcher_61 : decode cX12_watcher 61 = .ok (.iconst 5, 1) := by decide +kernel
theorem dX12_watcher_62 : decode cX12_watcher 62 = .ok (.iload_n 1, 1) := by decide +kernel
theorem dX12_watcher_63 : decode cX12_watcher 63 = .ok (.imul, 1) := by decide +kernel
theorem dX12_watcher_64 : decode cX12_watcher 64 = .ok (.iconst 3, 1) := by decide +kernel
theorem dX12_watcher_65 : decode cX12_watcher 65 = .ok (.iadd, 1) := by decide +kernel
theorem dX12_watcher_66 : decode cX12_watcher 66 = .ok (.iconst 0, 1) := by decide +kernel
theorem dX12_watcher_67 : decode cX12_watcher 67 = .ok (.iastore, 1) := by decide +kernel
theorem dX12_watcher_68 : decode cX12_watcher 68 = .ok (.aload_n 0, 1) := by decide +kernel
theorem dX12_watcher_69 : decode cX12_watcher 69 = .ok (.getfield 58, 3) := by decide +kernel
theorem dX12_watcher_72 : decode cX12_watcher 72 = .ok (.iconst 5, 1) := by decide +kernel
theorem dX12_watcher_73 : decode cX12_watcher 73 = .ok (.iload_n 1, 1) := by decide +kernel
theorem dX12_watcher_74 : decode cX12_watcher 74 = .ok (.imul, 1) := by decide +kernel
theorem dX12_watcher_75 : decode cX12_watcher 75 = .ok (.iconst 4, 1) := by decide +kernel
theorem dX12_watcher_76 : decode cX12_watcher 76 = .ok (.iadd, 1) := by decide +kernel
theorem dX12_watcher_77 : decode cX12_watcher 77 = .ok (.iconst 0, 1) := by decide +kernel
theorem dX12_watcher_78 : decode cX12_watcher 78 = .ok (.iastore, 1) := by decide +kernel
theorem dX12_watcher_79 : decode cX12_watcher 79 = .ok (.iconst 1, 1) := by decide +kernel
theorem dX12_watcher_80 : decode cX12_watcher 80 = .ok (.ireturn, 1) := by decide +kernel
theorem dX12_watch_0 : decode cX12_watch 0 = .ok (.aload_n 0, 1) := by decide +kernel
theorem dX12_watch_1 : decode cX12_watch 1 = .ok (.iload_n 1, 1) := by decide +kernel
theorem dX12_watch_2 : decode cX12_watch 2 = .ok (.invokevirtual 353, 3) := by decide +kernel
theorem dX12_watch_5 : decode cX12_watch 5 = .ok (.ifCond .eq 12, 3) := by decide +kernel
theorem dX12_watch_8 : decode cX12_watch 8 = .ok (.aload_n 0, 1) := by decide +kernel
theorem dX12_watch_9 : decode cX12_watch 9 = .ok (.getfield 61, 3) := by decide +kernel
theorem dX12_watch_12 : decode cX12_watch 12 = .ok (.iload_n 1, 1) := by decide +kernel
theorem dX12_watch_13 : decode cX12_watch 13 = .ok (.baload, 1) := by decide +kernel
theorem dX12_watch_14 : decode cX12_watch 14 = .ok (.ifCond .ne 5, 3) := by decide +kernel
theorem dX12_watch_17 : decode cX12_watch 17 = .ok (.iconst (-1), 1) := by decide +kernel
theorem dX12_watch_18 : decode cX12_watch 18 = .ok (.ireturn, 1) := by decide +kernel
theorem dX12_watch_19 : decode cX12_watch 19 = .ok (.aload_n 0, 1) := by decide +kernel
theorem dX12_watch_20 : decode cX12_watch 20 = .ok (.getfield 58, 3) := by decide +kernel
theorem dX12_watch_23 : decode cX12_watch 23 = .ok (.iconst 5, 1) := by decide +kernel
theorem dX12_watch_24 : decode cX12_watch 24 = .ok (.iload_n 1, 1) := by decide +kernel
theorem dX12_watch_25 : decode cX12_watch 25 = .ok (.imul, 1) := by decide +kernel
theorem dX12_watch_26 : decode cX12_watch 26 = .ok (.iaload, 1) := by decide +kernel
theorem dX12_watch_27 : decode cX12_watch 27 = .ok (.istore_n 2, 1) := by decide +kernel
theorem dX12_watch_28 : decode cX12_watch 28 = .ok (.aload_n 0, 1) := by decide +kernel
theorem dX12_watch_29 : decode cX12_watch 29 = .ok (.getfield 58, 3) := by decide +kernel
theorem dX12_watch_32 : decode cX12_watch 32 = .ok (.iconst 5, 1) := by decide +kernel
theorem dX12_watch_33 : decode cX12_watch 33 = .ok (.iload_n 1, 1) := by decide +kernel
theorem dX12_watch_34 : decode cX12_watch 34 = .ok (.imul, 1) := by decide +kernel
theorem dX12_watch_35 : decode cX12_watch 35 = .ok (.iconst 3, 1) := by decide +kernel
theorem dX12_watch_36 : decode cX12_watch 36 = .ok (.iadd, 1) := by decide +kernel
theorem dX12_watch_37 : decode cX12_watch 37 = .ok (.iaload, 1) := by decide +kernel
theorem dX12_watch_38 : decode cX12_watch 38 = .ok (.istore_n 3, 1) := by decide +kernel
theorem dX12_watch_39 : decode cX12_watch 39 = .ok (.iload_n 3, 1) := by decide +kernel
theorem dX12_watch_40 : decode cX12_watch 40 = .ok (.aload_n 0, 1) := by decide +kernel
theorem dX12_watch_41 : decode cX12_watch 41 = .ok (.iload_n 2, 1) := by decide +kernel
theorem dX12_watch_42 : decode cX12_watch 42 = .ok (.invokevirtual 274, 3) := by decide +kernel
theorem dX12_watch_45 : decode cX12_watch 45 = .ok (.if_icmp .ge 171, 3) := by decide +kernel
theorem dX12_watch_48 : decode cX12_watch 48 = .ok (.aload_n 0, 1) := by decide +kernel
theorem dX12_watch_49 : decode cX12_watch 49 = .ok (.getfield 13, 3) := by decide +kernel
theorem dX12_watch_52 : decode cX12_watch 52 = .ok (.sipush 400, 3) := by decide +kernel
theorem dX12_watch_55 : decode cX12_watch 55 = .ok (.iload_n 2, 1) := by decide +kernel
theorem dX12_watch_56 : decode cX12_watch 56 = .ok (.imul, 1) := by decide +kernel
theorem dX12_watch_57 : decode cX12_watch 57 = .ok (.iload_n 3, 1) := by decide +kernel
theorem dX12_watch_58 : decode cX12_watch 58 = .ok (.iadd, 1) := by decide +kernel
theorem dX12_watch_59 : decode cX12_watch 59 = .ok (.iaload, 1) := by decide +kernel
theorem dX12_watch_60 : decode cX12_watch 60 = .ok (.istore 4, 2) := by decide +kernel
theorem dX12_watch_62 : decode cX12_watch 62 = .ok (.aload_n 0, 1) := by decide +kernel
theorem dX12_watch_63 : decode cX12_watch 63 = .ok (.getfield 20, 3) := by decide +kernel
theorem dX12_watch_66 : decode cX12_watch 66 = .ok (.sipush 400, 3) := by decide +kernel
theorem dX12_watch_69 : decode cX12_watch 69 = .ok (.iload_n 2, 1) := by decide +kernel
theorem dX12_watch_70 : decode cX12_watch 70 = .ok (.imul, 1) := by decide +kernel
theorem dX12_watch_71 : decode cX12_watch 71 = .ok (.iload_n 3, 1) := by decide +kernel
theorem dX12_watch_72 : decode cX12_watch 72 = .ok (.iadd, 1) := by decide +kernel
theorem dX12_watch_73 : decode cX12_watch 73 = .ok (.baload, 1) := by decide +kernel
theorem dX12_watch_74 : decode cX12_watch 74 = .ok (.ifCond .ne 136, 3) := by decide +kernel
theorem dX12_watch_77 : decode cX12_watch 77 = .ok (.iload 4, 2) := by decide +kernel
theorem dX12_watch_79 : decode cX12_watch 79 = .ok (.aload_n 0, 1) := by decide +kernel
theorem dX12_watch_80 : decode cX12_watch 80 = .ok (.getfield 58, 3) := by decide +kernel
theorem dX12_watch_83 : decode cX12_watch 83 = .ok (.iconst 5, 1) := by decide +kernel
theorem dX12_watch_84 : decode cX12_watch 84 = .ok (.iload_n 1, 1) := by decide +kernel
theorem dX12_watch_85 : decode cX12_watch 85 = .ok (.imul, 1) := by decide +kernel
theorem dX12_watch_86 : decode cX12_watch 86 = .ok (.iconst 1, 1) := by decide +kernel
theorem dX12_watch_87 : decode cX12_watch 87 = .ok (.iadd, 1) := by decide +kernel
theorem dX12_watch_88 : decode cX12_watch 88 = .ok (.iaload, 1) := by decide +kernel
theorem dX12_watch_89 : decode cX12_watch 89 = .ok (.if_icmp .lt 121, 3) := by decide +kernel
theorem dX12_watch_92 : decode cX12_watch 92 = .ok (.iload 4, 2) := by decide +kernel
theorem dX12_watch_94 : decode cX12_watch 94 = .ok (.aload_n 0, 1) := by decide +kernel
theorem dX12_watch_95 : decode cX12_watch 95 = .ok (.getfield 58, 3) := by decide +kernel
theorem dX12_watch_98 : decode cX12_watch 98 = .ok (.iconst 5, 1) := by decide +kernel
theorem dX12_watch_99 : decode cX12_watch 99 = .ok (.iload_n 1, 1) := by decide +kernel
theorem dX12_watch_100 : decode cX12_watch 100 = .ok (.imul, 1) := by decide +kernel
theorem dX12_watch_101 : decode cX12_watch 101 = .ok (.iconst 2, 1) := by decide +kernel
theorem dX12_watch_102 : decode cX12_watch 102 = .ok (.iadd, 1) := by decide +kernel
theorem dX12_watch_103 : decode cX12_watch 103 = .ok (.iaload, 1) := by decide +kernel
theorem dX12_watch_104 : decode cX12_watch 104 = .ok (.if_icmp .le 6, 3) := by decide +kernel
theorem dX12_watch_107 : decode cX12_watch 107 = .ok (.goto 103, 3) := by decide +kernel
theorem dX12_watch_110 : decode cX12_watch 110 = .ok (.iconst 0, 1) := by decide +kernel
theorem dX12_watch_111 : decode cX12_watch 111 = .ok (.istore 5, 2) := by decide +kernel
theorem dX12_watch_113 : decode cX12_watch 113 = .ok (.iload 5, 2) := by decide +kernel
theorem dX12_watch_115 : decode cX12_watch 115 = .ok (.aload_n 0, 1) := by decide +kernel
theorem dX12_watch_116 : decode cX12_watch 116 = .ok (.getfield 58, 3) := by decide +kernel
theorem dX12_watch_119 : decode cX12_watch 119 = .ok (.iconst 5, 1) := by decide +kernel
theorem dX12_watch_120 : decode cX12_watch 120 = .ok (.iload_n 1, 1) := by decide +kernel
theorem dX12_watch_121 : decode cX12_watch 121 = .ok (.imul, 1) := by decide +kernel
theorem dX12_watch_122 : decode cX12_watch 122 = .ok (.iconst 4, 1) := by decide +kernel
theorem dX12_watch_123 : decode cX12_watch 123 = .ok (.iadd, 1) := by decide +kernel
theorem dX12_watch_124 : decode cX12_watch 124 = .ok (.iaload, 1) := by decide +kernel
theorem dX12_watch_125 : decode cX12_watch 125 = .ok (.if_icmp .ge 27, 3) := by decide +kernel
theorem dX12_watch_128 : decode cX12_watch 128 = .ok (.aload_n 0, 1) := by decide +kernel
theorem dX12_watch_129 : decode cX12_watch 129 = .ok (.getfield 64, 3) := by decide +kernel
theorem dX12_watch_132 : decode cX12_watch 132 = .ok (.sipush 400, 3) := by decide +kernel
theorem dX12_watch_135 : decode cX12_watch 135 = .ok (.iload_n 1, 1) := by decide +kernel
theorem dX12_watch_136 : decode cX12_watch 136 = .ok (.imul, 1) := by decide +kernel
theorem dX12_watch_137 : decode cX12_watch 137 = .ok (.iload 5, 2) := by decide +kernel
theorem dX12_watch_139 : decode cX12_watch 139 = .ok (.iadd, 1) := by decide +kernel
theorem dX12_watch_140 : decode cX12_watch 140 = .ok (.iaload, 1) := by decide +kernel
theorem dX12_watch_141 : decode cX12_watch 141 = .ok (.iload 4, 2) := by decide +kernel
theorem dX12_watch_143 : decode cX12_watch 143 = .ok (.if_icmp .eq 9, 3) := by decide +kernel
theorem dX12_watch_146 : decode cX12_watch 146 = .ok (.iinc 5 1, 3) := by decide +kernel
theorem dX12_watch_149 : decode cX12_watch 149 = .ok (.goto (-36), 3) := by decide +kernel
theorem dX12_watch_152 : decode cX12_watch 152 = .ok (.iload 5, 2) := by decide +kernel
theorem dX12_watch_154 : decode cX12_watch 154 = .ok (.aload_n 0, 1) := by decide +kernel
theorem dX12_watch_155 : decode cX12_watch 155 = .ok (.getfield 58, 3) := by decide +kernel
theorem dX12_watch_158 : decode cX12_watch 158 = .ok (.iconst 5, 1) := by decide +kernel
theorem dX12_watch_159 : decode cX12_watch 159 = .ok (.iload_n 1, 1) := by decide +kernel
theorem dX12_watch_160 : decode cX12_watch 160 = .ok (.imul, 1) := by decide +kernel
theorem dX12_watch_161 : decode cX12_watch 161 = .ok (.iconst 4, 1) := by decide +kernel
theorem dX12_watch_162 : decode cX12_watch 162 = .ok (.iadd, 1) := by decide +kernel
theorem dX12_watch_163 : decode cX12_watch 163 = .ok (.iaload, 1) := by decide +kernel
theorem dX12_watch_164 : decode cX12_watch 164 = .ok (.if_icmp .ne 32, 3) := by decide +kernel
theorem dX12_watch_167 : decode cX12_watch 167 = .ok (.aload_n 0, 1) := by decide +kernel
theorem dX12_watch_168 : decode cX12_watch 168 = .ok (.getfield 64, 3) := by decide +kernel
theorem dX12_watch_171 : decode cX12_watch 171 = .ok (.sipush 400, 3) := by decide +kernel
theorem dX12_watch_174 : decode cX12_watch 174 = .ok (.iload_n 1, 1) := by decide +kernel
theorem dX12_watch_175 : decode cX12_watch 175 = .ok (.imul, 1) := by decide +kernel
theorem dX12_watch_176 : decode cX12_watch 176 = .ok (.iload 5, 2) := by decide +kernel
theorem dX12_watch_178 : decode cX12_watch 178 = .ok (.iadd, 1) := by decide +kernel
theorem dX12_watch_179 : decode cX12_watch 179 = .ok (.iload 4, 2) := by decide +kernel
theorem dX12_watch_181 : decode cX12_watch 181 = .ok (.iastore, 1) := by decide +kernel
theorem dX12_watch_182 : decode cX12_watch 182 = .ok (.aload_n 0, 1) := by decide +kernel
theorem dX12_watch_183 : decode cX12_watch 183 = .ok (.getfield 58, 3) := by decide +kernel
theorem dX12_watch_186 : decode cX12_watch 186 = .ok (.iconst 5, 1) := by decide +kernel
theorem dX12_watch_187 : decode cX12_watch 187 = .ok (.iload_n 1, 1) := by decide +kernel
theorem dX12_watch_188 : decode cX12_watch 188 = .ok (.imul, 1) := by decide +kernel
theorem dX12_watch_189 : decode cX12_watch 189 = .ok (.iconst 4, 1) := by decide +kernel
theorem dX12_watch_190 : decode cX12_watch 190 = .ok (.iadd, 1) := by decide +kernel
theorem dX12_watch_191 : decode cX12_watch 191 = .ok (.dup2, 1) := by decide +kernel
theorem dX12_watch_192 : decode cX12_watch 192 = .ok (.iaload, 1) := by decide +kernel
theorem dX12_watch_193 : decode cX12_watch 193 = .ok (.iconst 1, 1) := by decide +kernel
theorem dX12_watch_194 : decode cX12_watch 194 = .ok (.iadd, 1) := by decide +kernel
theorem dX12_watch_195 : decode cX12_watch 195 = .ok (.iastore, 1) := by decide +kernel
theorem dX12_watch_196 : decode cX12_watch 196 = .ok (.aload_n 0, 1) := by decide +kernel
theorem dX12_watch_197 : decode cX12_watch 197 = .ok (.getfield 67, 3) := by decide +kernel
theorem dX12_watch_200 : decode cX12_watch 200 = .ok (.sipush 400, 3) := by decide +kernel
theorem dX12_watch_203 : decode cX12_watch 203 = .ok (.iload_n 1, 1) := by decide +kernel
theorem dX12_watch_204 : decode cX12_watch 204 = .ok (.imul, 1) := by decide +kernel
theorem dX12_watch_205 : decode cX12_watch 205 = .ok (.iload 5, 2) := by decide +kernel
theorem dX12_watch_207 : decode cX12_watch 207 = .ok (.iadd, 1) := by decide +kernel
theorem dX12_watch_208 : decode cX12_watch 208 = .ok (.iload_n 3, 1) := by decide +kernel
theorem dX12_watch_209 : decode cX12_watch 209 = .ok (.iastore, 1) := by decide +kernel
theorem dX12_watch_210 : decode cX12_watch 210 = .ok (.iinc 3 1, 3) := by decide +kernel
theorem dX12_watch_213 : decode cX12_watch 213 = .ok (.goto (-174), 3) := by decide +kernel
theorem dX12_watch_216 : decode cX12_watch 216 = .ok (.aload_n 0, 1) := by decide +kernel
theorem dX12_watch_217 : decode cX12_watch 217 = .ok (.getfield 58, 3) := by decide +kernel
theorem dX12_watch_220 : decode cX12_watch 220 = .ok (.iconst 5, 1) := by decide +kernel
theorem dX12_watch_221 : decode cX12_watch 221 = .ok (.iload_n 1, 1) := by decide +kernel
theorem dX12_watch_222 : decode cX12_watch 222 = .ok (.imul, 1) := by decide +kernel
theorem dX12_watch_223 : decode cX12_watch 223 = .ok (.iconst 3, 1) := by decide +kernel
theorem dX12_watch_224 : decode cX12_watch 224 = .ok (.iadd, 1) := by decide +kernel
theorem dX12_watch_225 : decode cX12_watch 225 = .ok (.aload_n 0, 1) := by decide +kernel
theorem dX12_watch_226 : decode cX12_watch 226 = .ok (.iload_n 2, 1) := by decide +kernel
theorem dX12_watch_227 : decode cX12_watch 227 = .ok (.invokevirtual 274, 3) := by decide +kernel
theorem dX12_watch_230 : decode cX12_watch 230 = .ok (.iastore, 1) := by decide +kernel
theorem dX12_watch_231 : decode cX12_watch 231 = .ok (.aload_n 0, 1) := by decide +kernel
theorem dX12_watch_232 : decode cX12_watch 232 = .ok (.iload_n 2, 1) := by decide +kernel
theorem dX12_watch_233 : decode cX12_watch 233 = .ok (.aload_n 0, 1) := by decide +kernel
theorem dX12_watch_234 : decode cX12_watch 234 = .ok (.iload_n 2, 1) := by decide +kernel
theorem dX12_watch_235 : decode cX12_watch 235 = .ok (.invokevirtual 274, 3) := by decide +kernel
theorem dX12_watch_238 : decode cX12_watch 238 = .ok (.invokevirtual 260, 3) := by decide +kernel
theorem dX12_watch_241 : decode cX12_watch 241 = .ok (.iconst 0, 1) := by decide +kernel
theorem dX12_watch_242 : decode cX12_watch 242 = .ok (.istore_n 3, 1) := by decide +kernel
theorem dX12_watch_243 : decode cX12_watch 243 = .ok (.iconst 0, 1) := by decide +kernel
theorem dX12_watch_244 : decode cX12_watch 244 = .ok (.istore 4, 2) := by decide +kernel
theorem dX12_watch_246 : decode cX12_watch 246 = .ok (.iload 4, 2) := by decide +kernel
theorem dX12_watch_248 : decode cX12_watch 248 = .ok (.aload_n 0, 1) := by decide +kernel
theorem dX12_watch_249 : decode cX12_watch 249 = .ok (.getfield 58, 3) := by decide +kernel
theorem dX12_watch_252 : decode cX12_watch 252 = .ok (.iconst 5, 1) := by decide +kernel
theorem dX12_watch_253 : decode cX12_watch 253 = .ok (.iload_n 1, 1) := by decide +kernel
theorem dX12_watch_254 : decode cX12_watch 254 = .ok (.imul, 1) := by decide +kernel
theorem dX12_watch_255 : decode cX12_watch 255 = .ok (.iconst 4, 1) := by decide +kernel
theorem dX12_watch_256 : decode cX12_watch 256 = .ok (.iadd, 1) := by decide +kernel
theorem dX12_watch_257 : decode cX12_watch 257 = .ok (.iaload, 1) := by decide +kernel
theorem dX12_watch_258 : decode cX12_watch 258 = .ok (.if_icmp .ge 60, 3) := by decide +kernel
theorem dX12_watch_261 : decode cX12_watch 261 = .ok (.aload_n 0, 1) := by decide +kernel
theorem dX12_watch_262 : decode cX12_watch 262 = .ok (.aload_n 0, 1) := by decide +kernel
theorem dX12_watch_263 : decode cX12_watch 263 = .ok (.getfield 64, 3) := by decide +kernel
theorem dX12_watch_266 : decode cX12_watch 266 = .ok (.sipush 400, 3) := by decide +kernel
theorem dX12_watch_269 : decode cX12_watch 269 = .ok (.iload_n 1, 1) := by decide +kernel
theorem dX12_watch_270 : decode cX12_watch 270 = .ok (.imul, 1) := by decide +kernel
theorem dX12_watch_271 : decode cX12_watch 271 = .ok (.iload 4, 2) := by decide +kernel
theorem dX12_watch_273 : decode cX12_watch 273 = .ok (.iadd, 1) := by decide +kernel
theorem dX12_watch_274 : decode cX12_watch 274 = .ok (.iaload, 1) := by decide +kernel
theorem dX12_watch_275 : decode cX12_watch 275 = .ok (.invokevirtual 230, 3) := by decide +kernel
theorem dX12_watch_278 : decode cX12_watch 278 = .ok (.istore 5, 2) := by decide +kernel
theorem dX12_watch_280 : decode cX12_watch 280 = .ok (.iload 5, 2) := by decide +kernel
theorem dX12_watch_282 : decode cX12_watch 282 = .ok (.iconst (-1), 1) := by decide +kernel
theorem dX12_watch_283 : decode cX12_watch 283 = .ok (.if_icmp .eq 26, 3) := by decide +kernel
theorem dX12_watch_286 : decode cX12_watch 286 = .ok (.aload_n 0, 1) := by decide +kernel
theorem dX12_watch_287 : decode cX12_watch 287 = .ok (.getfield 154, 3) := by decide +kernel
theorem dX12_watch_290 : decode cX12_watch 290 = .ok (.iload 5, 2) := by decide +kernel
theorem dX12_watch_292 : decode cX12_watch 292 = .ok (.iaload, 1) := by decide +kernel
theorem dX12_watch_293 : decode cX12_watch 293 = .ok (.aload_n 0, 1) := by decide +kernel
theorem dX12_watch_294 : decode cX12_watch 294 = .ok (.getfield 67, 3) := by decide +kernel
theorem dX12_watch_297 : decode cX12_watch 297 = .ok (.sipush 400, 3) := by decide +kernel
theorem dX12_watch_300 : decode cX12_watch 300 = .ok (.iload_n 1, 1) := by decide +kernel
theorem dX12_watch_301 : decode cX12_watch 301 = .ok (.imul, 1) := by decide +kernel
theorem dX12_watch_302 : decode cX12_watch 302 = .ok (.iload 4, 2) := by decide +kernel
theorem dX12_watch_304 : decode cX12_watch 304 = .ok (.iadd, 1) := by decide +kernel
theorem dX12_watch_305 : decode cX12_watch 305 = .ok (.iaload, 1) := by decide +kernel
theorem dX12_watch_306 : decode cX12_watch 306 = .ok (.if_icmp .eq 6, 3) := by decide +kernel
theorem dX12_watch_309 : decode cX12_watch 309 = .ok (.iinc 3 1, 3) := by decide +kernel
theorem dX12_watch_312 : decode cX12_watch 312 = .ok (.iinc 4 1, 3) := by decide +kernel
theorem dX12_watch_315 : decode cX12_watch 315 = .ok (.goto (-69), 3) := by decide +kernel
theorem dX12_watch_318 : decode cX12_watch 318 = .ok (.iload_n 3, 1) := by decide +kernel
theorem dX12_watch_319 : decode cX12_watch 319 = .ok (.ireturn, 1) := by decide +kernel
theorem dX12_watching_0 : decode cX12_watching 0 = .ok (.aload_n 0, 1) := by decide +kernel
theorem dX12_watching_1 : decode cX12_watching 1 = .ok (.iload_n 1, 1) := by decide +kernel
theorem dX12_watching_2 : decode cX12_watching 2 = .ok (.invokevirtual 353, 3) := by decide +kernel
theorem dX12_watching_5 : decode cX12_watching 5 = .ok (.ifCond .eq 12, 3) := by decide +kernel
theorem dX12_watching_8 : decode cX12_watching 8 = .ok (.aload_n 0, 1) := by decide +kernel
theorem dX12_watching_9 : decode cX12_watching 9 = .ok (.getfield 61, 3) := by decide +kernel
theorem dX12_watching_12 : decode cX12_watching 12 = .ok (.iload_n 1, 1) := by decide +kernel
theorem dX12_watching_13 : decode cX12_watching 13 = .ok (.baload, 1) := by decide +kernel
theorem dX12_watching_14 : decode cX12_watching 14 = .ok (.ifCond .ne 5, 3) := by decide +kernel
theorem dX12_watching_17 : decode cX12_watching 17 = .ok (.iconst (-1), 1) := by decide +kernel
theorem dX12_watching_18 : decode cX12_watching 18 = .ok (.ireturn, 1) := by decide +kernel
theorem dX12_watching_19 : decode cX12_watching 19 = .ok (.iload_n 2, 1) := by decide +kernel
theorem dX12_watching_20 : decode cX12_watching 20 = .ok (.ifCond .ne 16, 3) := by decide +kernel
theorem dX12_watching_23 : decode cX12_watching 23 = .ok (.aload_n 0, 1) := by decide +kernel
theorem dX12_watching_24 : decode cX12_watching 24 = .ok (.getfield 58, 3) := by decide +kernel
theorem dX12_watching_27 : decode cX12_watching 27 = .ok (.iconst 5, 1) := by decide +kernel
theorem dX12_watching_28 : decode cX12_watching 28 = .ok (.iload_n 1, 1) := by decide +kernel
theorem dX12_watching_29 : decode cX12_watching 29 = .ok (.imul, 1) := by decide +kernel
theorem dX12_watching_30 : decode cX12_watching 30 = .ok (.iconst 3, 1) := by decide +kernel
theorem dX12_watching_31 : decode cX12_watching 31 = .ok (.iadd, 1) := by decide +kernel
theorem dX12_watching_32 : decode cX12_watching 32 = .ok (.iaload, 1) := by decide +kernel
theorem dX12_watching_33 : decode cX12_watching 33 = .ok (.goto 38, 3) := by decide +kernel
theorem dX12_watching_36 : decode cX12_watching 36 = .ok (.iload_n 2, 1) := by decide +kernel
theorem dX12_watching_37 : decode cX12_watching 37 = .ok (.iconst 1, 1) := by decide +kernel
theorem dX12_watching_38 : decode cX12_watching 38 = .ok (.if_icmp .ne 16, 3) := by decide +kernel
theorem dX12_watching_41 : decode cX12_watching 41 = .ok (.aload_n 0, 1) := by decide +kernel
theorem dX12_watching_42 : decode cX12_watching 42 = .ok (.getfield 58, 3) := by decide +kernel
theorem dX12_watching_45 : decode cX12_watching 45 = .ok (.iconst 5, 1) := by decide +kernel
theorem dX12_watching_46 : decode cX12_watching 46 = .ok (.iload_n 1, 1) := by decide +kernel
theorem dX12_watching_47 : decode cX12_watching 47 = .ok (.imul, 1) := by decide +kernel
theorem dX12_watching_48 : decode cX12_watching 48 = .ok (.iconst 4, 1) := by decide +kernel
theorem dX12_watching_49 : decode cX12_watching 49 = .ok (.iadd, 1) := by decide +kernel
theorem dX12_watching_50 : decode cX12_watching 50 = .ok (.iaload, 1) := by decide +kernel
theorem dX12_watching_51 : decode cX12_watching 51 = .ok (.goto 20, 3) := by decide +kernel
theorem dX12_watching_54 : decode cX12_watching 54 = .ok (.iload_n 2, 1) := by decide +kernel
theorem dX12_watching_55 : decode cX12_watching 55 = .ok (.iconst 2, 1) := by decide +kernel
theorem dX12_watching_56 : decode cX12_watching 56 = .ok (.if_icmp .ne 14, 3) := by decide +kernel
theorem dX12_watching_59 : decode cX12_watching 59 = .ok (.aload_n 0, 1) := by decide +kernel
theorem dX12_watching_60 : decode cX12_watching 60 = .ok (.getfield 58, 3) := by decide +kernel
theorem dX12_watching_63 : decode cX12_watching 63 = .ok (.iconst 5, 1) := by decide +kernel
theorem dX12_watching_64 : decode cX12_watching 64 = .ok (.iload_n 1, 1) := by decide +kernel
theorem dX12_watching_65 : decode cX12_watching 65 = .ok (.imul, 1) := by decide +kernel
theorem dX12_watching_66 : decode cX12_watching 66 = .ok (.iaload, 1) := by decide +kernel
theorem dX12_watching_67 : decode cX12_watching 67 = .ok (.goto 4, 3) := by decide +kernel
theorem dX12_watching_70 : decode cX12_watching 70 = .ok (.iconst (-1), 1) := by decide +kernel
theorem dX12_watching_71 : decode cX12_watching 71 = .ok (.ireturn, 1) := by decide +kernel
theorem dX12_all_0 : decode cX12_all 0 = .ok (.iconst 0, 1) := by decide +kernel
theorem dX12_all_1 : decode cX12_all 1 = .ok (.istore_n 2, 1) := by decide +kernel
theorem dX12_all_2 : decode cX12_all 2 = .ok (.iload_n 1, 1) := by decide +kernel
theorem dX12_all_3 : decode cX12_all 3 = .ok (.tableswitch 128 0 4 #[33, 38, 69, 97, 102], 33) := by decide +kernel
theorem dX12_all_36 : decode cX12_all 36 = .ok (.aload_n 0, 1) := by decide +kernel
theorem dX12_all_37 : decode cX12_all 37 = .ok (.getfield 267, 3) := by decide +kernel
theorem dX12_all_40 : decode cX12_all 40 = .ok (.ireturn, 1) := by decide +kernel
theorem dX12_all_41 : decode cX12_all 41 = .ok (.iconst 0, 1) := by decide +kernel
theorem dX12_all_42 : decode cX12_all 42 = .ok (.istore_n 3, 1) := by decide +kernel
theorem dX12_all_43 : decode cX12_all 43 = .ok (.iload_n 3, 1) := by decide +kernel
theorem dX12_all_44 : decode cX12_all 44 = .ok (.bipush 16, 2) := by decide +kernel
theorem dX12_all_46 : decode cX12_all 46 = .ok (.if_icmp .ge 24, 3) := by decide +kernel
theorem dX12_all_49 : decode cX12_all 49 = .ok (.aload_n 0, 1) := by decide +kernel
theorem dX12_all_50 : decode cX12_all 50 = .ok (.getfield 36, 3) := by decide +kernel
theorem dX12_all_53 : decode cX12_all 53 = .ok (.bipush 8, 2) := by decide +kernel
theorem dX12_all_55 : decode cX12_all 55 = .ok (.iload_n 3, 1) := by decide +kernel
theorem dX12_all_56 : decode cX12_all 56 = .ok (.imul, 1) := by decide +kernel
theorem dX12_all_57 : decode cX12_all 57 = .ok (.iaload, 1) := by decide +kernel
theorem dX12_all_58 : decode cX12_all 58 = .ok (.ifCond .le 6, 3) := by decide +kernel
theorem dX12_all_61 : decode cX12_all 61 = .ok (.iinc 2 1, 3) := by decide +kernel
theorem dX12_all_64 : decode cX12_all 64 = .ok (.iinc 3 1, 3) := by decide +kernel
theorem dX12_all_67 : decode cX12_all 67 = .ok (.goto (-24), 3) := by decide +kernel
theorem dX12_all_70 : decode cX12_all 70 = .ok (.iload_n 2, 1) := by decide +kernel
theorem dX12_all_71 : decode cX12_all 71 = .ok (.ireturn, 1) := by decide +kernel
theorem dX12_all_72 : decode cX12_all 72 = .ok (.iconst 0, 1) := by decide +kernel
theorem dX12_all_73 : decode cX12_all 73 = .ok (.istore_n 3, 1) := by decide +kernel
theorem dX12_all_74 : decode cX12_all 74 = .ok (.iload_n 3, 1) := by decide +kernel
theorem dX12_all_75 : decode cX12_all 75 = .ok (.bipush 12, 2) := by decide +kernel
theorem dX12_all_77 : decode cX12_all 77 = .ok (.if_icmp .ge 21, 3) := by decide +kernel
theorem dX12_all_80 : decode cX12_all 80 = .ok (.aload_n 0, 1) := by decide +kernel
theorem dX12_all_81 : decode cX12_all 81 = .ok (.getfield 52, 3) := by decide +kernel
theorem dX12_all_84 : decode cX12_all 84 = .ok (.iload_n 3, 1) := by decide +kernel
theorem dX12_all_85 : decode cX12_all 85 = .ok (.baload, 1) := by decide +kernel
theorem dX12_all_86 : decode cX12_all 86 = .ok (.ifCond .eq 6, 3) := by decide +kernel
theorem dX12_all_89 : decode cX12_all 89 = .ok (.iinc 2 1, 3) := by decide +kernel
theorem dX12_all_92 : decode cX12_all 92 = .ok (.iinc 3 1, 3) := by decide +kernel
theorem dX12_all_95 : decode cX12_all 95 = .ok (.goto (-21), 3) := by decide +kernel
theorem dX12_all_98 : decode cX12_all 98 = .ok (.iload_n 2, 1) := by decide +kernel
theorem dX12_all_99 : decode cX12_all 99 = .ok (.ireturn, 1) := by decide +kernel
theorem dX12_all_100 : decode cX12_all 100 = .ok (.aload_n 0, 1) := by decide +kernel
theorem dX12_all_101 : decode cX12_all 101 = .ok (.getfield 336, 3) := by decide +kernel
theorem dX12_all_104 : decode cX12_all 104 = .ok (.ireturn, 1) := by decide +kernel
theorem dX12_all_105 : decode cX12_all 105 = .ok (.iconst 0, 1) := by decide +kernel
theorem dX12_all_106 : decode cX12_all 106 = .ok (.istore_n 3, 1) := by decide +kernel
theorem dX12_all_107 : decode cX12_all 107 = .ok (.iload_n 3, 1) := by decide +kernel
theorem dX12_all_108 : decode cX12_all 108 = .ok (.aload_n 0, 1) := by decide +kernel
theorem dX12_all_109 : decode cX12_all 109 = .ok (.getfield 267, 3) := by decide +kernel
theorem dX12_all_112 : decode cX12_all 112 = .ok (.if_icmp .ge 17, 3) := by decide +kernel
theorem dX12_all_115 : decode cX12_all 115 = .ok (.iload_n 2, 1) := by decide +kernel
theorem dX12_all_116 : decode cX12_all 116 = .ok (.aload_n 0, 1) := by decide +kernel
theorem dX12_all_117 : decode cX12_all 117 = .ok (.iload_n 3, 1) := by decide +kernel
theorem dX12_all_118 : decode cX12_all 118 = .ok (.invokevirtual 274, 3) := by decide +kernel
theorem dX12_all_121 : decode cX12_all 121 = .ok (.iadd, 1) := by decide +kernel
theorem dX12_all_122 : decode cX12_all 122 = .ok (.istore_n 2, 1) := by decide +kernel
theorem dX12_all_123 : decode cX12_all 123 = .ok (.iinc 3 1, 3) := by decide +kernel
theorem dX12_all_126 : decode cX12_all 126 = .ok (.goto (-19), 3) := by decide +kernel
theorem dX12_all_129 : decode cX12_all 129 = .ok (.iload_n 2, 1) := by decide +kernel
theorem dX12_all_130 : decode cX12_all 130 = .ok (.ireturn, 1) := by decide +kernel
theorem dX12_all_131 : decode cX12_all 131 = .ok (.iconst (-1), 1) := by decide +kernel
theorem dX12_all_132 : decode cX12_all 132 = .ok (.ireturn, 1) := by decide +kernel
theorem dX12_ints_0 : decode cX12_ints 0 = .ok (.iconst 0, 1) := by decide +kernel
theorem dX12_ints_1 : decode cX12_ints 1 = .ok (.istore_n 2, 1) := by decide +kernel
theorem dX12_ints_2 : decode cX12_ints 2 = .ok (.iload_n 2, 1) := by decide +kernel
theorem dX12_ints_3 : decode cX12_ints 3 = .ok (.aload_n 0, 1) := by decide +kernel
theorem dX12_ints_4 : decode cX12_ints 4 = .ok (.arraylength, 1) := by decide +kernel
theorem dX12_ints_5 : decode cX12_ints 5 = .ok (.if_icmp .ge 15, 3) := by decide +kernel
theorem dX12_ints_8 : decode cX12_ints 8 = .ok (.aload_n 1, 1) := by decide +kernel
theorem dX12_ints_9 : decode cX12_ints 9 = .ok (.iload_n 2, 1) := by decide +kernel
theorem dX12_ints_10 : decode cX12_ints 10 = .ok (.aload_n 0, 1) := by decide +kernel
theorem dX12_ints_11 : decode cX12_ints 11 = .ok (.iload_n 2, 1) := by decide +kernel
theorem dX12_ints_12 : decode cX12_ints 12 = .ok (.iaload, 1) := by decide +kernel
theorem dX12_ints_13 : decode cX12_ints 13 = .ok (.iastore, 1) := by decide +kernel
theorem dX12_ints_14 : decode cX12_ints 14 = .ok (.iinc 2 1, 3) := by decide +kernel
theorem dX12_ints_17 : decode cX12_ints 17 = .ok (.goto (-15), 3) := by decide +kernel
theorem dX12_ints_20 : decode cX12_ints 20 = .ok (.return_, 1) := by decide +kernel
theorem dX12_longs_0 : decode cX12_longs 0 = .ok (.iconst 0, 1) := by decide +kernel
theorem dX12_longs_1 : decode cX12_longs 1 = .ok (.istore_n 2, 1) := by decide +kernel
theorem dX12_longs_2 : decode cX12_longs 2 = .ok (.iload_n 2, 1) := by decide +kernel
theorem dX12_longs_3 : decode cX12_longs 3 = .ok (.aload_n 0, 1) := by decide +kernel
theorem dX12_longs_4 : decode cX12_longs 4 = .ok (.arraylength, 1) := by decide +kernel
theorem dX12_longs_5 : decode cX12_longs 5 = .ok (.if_icmp .ge 15, 3) := by decide +kernel
theorem dX12_longs_8 : decode cX12_longs 8 = .ok (.aload_n 1, 1) := by decide +kernel
theorem dX12_longs_9 : decode cX12_longs 9 = .ok (.iload_n 2, 1) := by decide +kernel
theorem dX12_longs_10 : decode cX12_longs 10 = .ok (.aload_n 0, 1) := by decide +kernel
theorem dX12_longs_11 : decode cX12_longs 11 = .ok (.iload_n 2, 1) := by decide +kernel
theorem dX12_longs_12 : decode cX12_longs 12 = .ok (.laload, 1) := by decide +kernel
theorem dX12_longs_13 : decode cX12_longs 13 = .ok (.lastore, 1) := by decide +kernel
theorem dX12_longs_14 : decode cX12_longs 14 = .ok (.iinc 2 1, 3) := by decide +kernel
theorem dX12_longs_17 : decode cX12_longs 17 = .ok (.goto (-15), 3) := by decide +kernel
theorem dX12_longs_20 : decode cX12_longs 20 = .ok (.return_, 1) := by decide +kernel
theorem dX12_truths_0 : decode cX12_truths 0 = .ok (.iconst 0, 1) := by decide +kernel
theorem dX12_truths_1 : decode cX12_truths 1 = .ok (.istore_n 2, 1) := by decide +kernel
theorem dX12_truths_2 : decode cX12_truths 2 = .ok (.iload_n 2, 1) := by decide +kernel
theorem dX12_truths_3 : decode cX12_truths 3 = .ok (.aload_n 0, 1) := by decide +kernel
theorem dX12_truths_4 : decode cX12_truths 4 = .ok (.arraylength, 1) := by decide +kernel
theorem dX12_truths_5 : decode cX12_truths 5 = .ok (.if_icmp .ge 15, 3) := by decide +kernel
theorem dX12_truths_8 : decode cX12_truths 8 = .ok (.aload_n 1, 1) := by decide +kernel
theorem dX12_truths_9 : decode cX12_truths 9 = .ok (.iload_n 2, 1) := by decide +kernel
theorem dX12_truths_10 : decode cX12_truths 10 = .ok (.aload_n 0, 1) := by decide +kernel
theorem dX12_truths_11 : decode cX12_truths 11 = .ok (.iload_n 2, 1) := by decide +kernel
theorem dX12_truths_12 : decode cX12_truths 12 = .ok (.baload, 1) := by decide +kernel
theorem dX12_truths_13 : decode cX12_truths 13 = .ok (.bastore, 1) := by decide +kernel
theorem dX12_truths_14 : decode cX12_truths 14 = .ok (.iinc 2 1, 3) := by decide +kernel
theorem dX12_truths_17 : decode cX12_truths 17 = .ok (.goto (-15), 3) := by decide +kernel
theorem dX12_truths_20 : decode cX12_truths 20 = .ok (.return_, 1) := by decide +kernel
theorem dX12_image_0 : decode cX12_image 0 = .ok (.aload_n 0, 1) := by decide +kernel
theorem dX12_image_1 : decode cX12_image 1 = .ok (.iconst 1, 1) := by decide +kernel
theorem dX12_image_2 : decode cX12_image 2 = .ok (.putfield 356, 3) := by decide +kernel
theorem dX12_image_5 : decode cX12_image 5 = .ok (.aload_n 0, 1) := by decide +kernel
theorem dX12_image_6 : decode cX12_image 6 = .ok (.aload_n 0, 1) := by decide +kernel
theorem dX12_image_7 : decode cX12_image 7 = .ok (.getfield 267, 3) := by decide +kernel
theorem dX12_image_10 : decode cX12_image 10 = .ok (.putfield 360, 3) := by decide +kernel
theorem dX12_image_13 : decode cX12_image 13 = .ok (.aload_n 0, 1) := by decide +kernel
theorem dX12_image_14 : decode cX12_image 14 = .ok (.aload_n 0, 1) := by decide +kernel
theorem dX12_image_15 : decode cX12_image 15 = .ok (.getfield 336, 3) := by decide +kernel
theorem dX12_image_18 : decode cX12_image 18 = .ok (.putfield 363, 3) := by decide +kernel
theorem dX12_image_21 : decode cX12_image 21 = .ok (.aload_n 0, 1) := by decide +kernel
theorem dX12_image_22 : decode cX12_image 22 = .ok (.getfield 9, 3) := by decide +kernel
theorem dX12_image_25 : decode cX12_image 25 = .ok (.aload_n 0, 1) := by decide +kernel
theorem dX12_image_26 : decode cX12_image 26 = .ok (.getfield 70, 3) := by decide +kernel
theorem dX12_image_29 : decode cX12_image 29 = .ok (.invokestatic 366, 3) := by decide +kernel
theorem dX12_image_32 : decode cX12_image 32 = .ok (.aload_n 0, 1) := by decide +kernel
theorem dX12_image_33 : decode cX12_image 33 = .ok (.getfield 13, 3) := by decide +kernel
theorem dX12_image_36 : decode cX12_image 36 = .ok (.aload_n 0, 1) := by decide +kernel
theorem dX12_image_37 : decode cX12_image 37 = .ok (.getfield 73, 3) := by decide +kernel
theorem dX12_image_40 : decode cX12_image 40 = .ok (.invokestatic 366, 3) := by decide +kernel
theorem dX12_image_43 : decode cX12_image 43 = .ok (.aload_n 0, 1) := by decide +kernel
theorem dX12_image_44 : decode cX12_image 44 = .ok (.getfield 16, 3) := by decide +kernel
theorem dX12_image_47 : decode cX12_image 47 = .ok (.aload_n 0, 1) := by decide +kernel
theorem dX12_image_48 : decode cX12_image 48 = .ok (.getfield 76, 3) := by decide +kernel
theorem dX12_image_51 : decode cX12_image 51 = .ok (.invokestatic 370, 3) := by decide +kernel
theorem dX12_image_54 : decode cX12_image 54 = .ok (.aload_n 0, 1) := by decide +kernel
theorem dX12_image_55 : decode cX12_image 55 = .ok (.getfield 20, 3) := by decide +kernel
theorem dX12_image_58 : decode cX12_image 58 = .ok (.aload_n 0, 1) := by decide +kernel
theorem dX12_image_59 : decode cX12_image 59 = .ok (.getfield 79, 3) := by decide +kernel
theorem dX12_image_62 : decode cX12_image 62 = .ok (.invokestatic 374, 3) := by decide +kernel
theorem dX12_image_65 : decode cX12_image 65 = .ok (.aload_n 0, 1) := by decide +kernel
theorem dX12_image_66 : decode cX12_image 66 = .ok (.getfield 24, 3) := by decide +kernel
theorem dX12_image_69 : decode cX12_image 69 = .ok (.aload_n 0, 1) := by decide +kernel
theorem dX12_image_70 : decode cX12_image 70 = .ok (.getfield 82, 3) := by decide +kernel
theorem dX12_image_73 : decode cX12_image 73 = .ok (.invokestatic 374, 3) := by decide +kernel
theorem dX12_image_76 : decode cX12_image 76 = .ok (.aload_n 0, 1) := by decide +kernel
theorem dX12_image_77 : decode cX12_image 77 = .ok (.getfield 27, 3) := by decide +kernel
theorem dX12_image_80 : decode cX12_image 80 = .ok (.aload_n 0, 1) := by decide +kernel
theorem dX12_image_81 : decode cX12_image 81 = .ok (.getfield 85, 3) := by decide +kernel
theorem dX12_image_84 : decode cX12_image 84 = .ok (.invokestatic 366, 3) := by decide +kernel
theorem dX12_image_87 : decode cX12_image 87 = .ok (.aload_n 0, 1) := by decide +kernel
theorem dX12_image_88 : decode cX12_image 88 = .ok (.getfield 30, 3) := by decide +kernel
theorem dX12_image_91 : decode cX12_image 91 = .ok (.aload_n 0, 1) := by decide +kernel
theorem dX12_image_92 : decode cX12_image 92 = .ok (.getfield 88, 3) := by decide +kernel
theorem dX12_image_95 : decode cX12_image 95 = .ok (.invokestatic 366, 3) := by decide +kernel
theorem dX12_image_98 : decode cX12_image 98 = .ok (.aload_n 0, 1) := by decide +kernel
theorem dX12_image_99 : decode cX12_image 99 = .ok (.getfield 33, 3) := by decide +kernel
theorem dX12_image_102 : decode cX12_image 102 = .ok (.aload_n 0, 1) := by decide +kernel
theorem dX12_image_103 : decode cX12_image 103 = .ok (.getfield 91, 3) := by decide +kernel
theorem dX12_image_106 : decode cX12_image 106 = .ok (.invokestatic 374, 3) := by decide +kernel
theorem dX12_image_109 : decode cX12_image 109 = .ok (.aload_n 0, 1) := by decide +kernel
theorem dX12_image_110 : decode cX12_image 110 = .ok (.getfield 36, 3) := by decide +kernel
theorem dX12_image_113 : decode cX12_image 113 = .ok (.aload_n 0, 1) := by decide +kernel
theorem dX12_image_114 : decode cX12_image 114 = .ok (.getfield 94, 3) := by decide +kernel
theorem dX12_image_117 : decode cX12_image 117 = .ok (.invokestatic 366, 3) := by decide +kernel
theorem dX12_image_120 : decode cX12_image 120 = .ok (.aload_n 0, 1) := by decide +kernel
theorem dX12_image_121 : decode cX12_image 121 = .ok (.getfield 39, 3) := by decide +kernel
theorem dX12_image_124 : decode cX12_image 124 = .ok (.aload_n 0, 1) := by decide +kernel
theorem dX12_image_125 : decode cX12_image 125 = .ok (.getfield 97, 3) := by decide +kernel
theorem dX12_image_128 : decode cX12_image 128 = .ok (.invokestatic 366, 3) := by decide +kernel
theorem dX12_image_131 : decode cX12_image 131 = .ok (.aload_n 0, 1) := by decide +kernel
theorem dX12_image_132 : decode cX12_image 132 = .ok (.getfield 42, 3) := by decide +kernel
theorem dX12_image_135 : decode cX12_image 135 = .ok (.aload_n 0, 1) := by decide +kernel
theorem dX12_image_136 : decode cX12_image 136 = .ok (.getfield 100, 3) := by decide +kernel
theorem dX12_image_139 : decode cX12_image 139 = .ok (.invokestatic 370, 3) := by decide +kernel
theorem dX12_image_142 : decode cX12_image 142 = .ok (.aload_n 0, 1) := by decide +kernel
theorem dX12_image_143 : decode cX12_image 143 = .ok (.getfield 46, 3) := by decide +kernel
theorem dX12_image_146 : decode cX12_image 146 = .ok (.aload_n 0, 1) := by decide +kernel
theorem dX12_image_147 : decode cX12_image 147 = .ok (.getfield 103, 3) := by decide +kernel
theorem dX12_image_150 : decode cX12_image 150 = .ok (.invokestatic 366, 3) := by decide +kernel
theorem dX12_image_153 : decode cX12_image 153 = .ok (.aload_n 0, 1) := by decide +kernel
theorem dX12_image_154 : decode cX12_image 154 = .ok (.getfield 49, 3) := by decide +kernel
theorem dX12_image_157 : decode cX12_image 157 = .ok (.aload_n 0, 1) := by decide +kernel
theorem dX12_image_158 : decode cX12_image 158 = .ok (.getfield 106, 3) := by decide +kernel
theorem dX12_image_161 : decode cX12_image 161 = .ok (.invokestatic 366, 3) := by decide +kernel
theorem dX12_image_164 : decode cX12_image 164 = .ok (.aload_n 0, 1) := by decide +kernel
theorem dX12_image_165 : decode cX12_image 165 = .ok (.getfield 52, 3) := by decide +kernel
theorem dX12_image_168 : decode cX12_image 168 = .ok (.aload_n 0, 1) := by decide +kernel
theorem dX12_image_169 : decode cX12_image 169 = .ok (.getfield 109, 3) := by decide +kernel
theorem dX12_image_172 : decode cX12_image 172 = .ok (.invokestatic 374, 3) := by decide +kernel
theorem dX12_image_175 : decode cX12_image 175 = .ok (.aload_n 0, 1) := by decide +kernel
theorem dX12_image_176 : decode cX12_image 176 = .ok (.getfield 55, 3) := by decide +kernel
theorem dX12_image_179 : decode cX12_image 179 = .ok (.aload_n 0, 1) := by decide +kernel
theorem dX12_image_180 : decode cX12_image 180 = .ok (.getfield 112, 3) := by decide +kernel
theorem dX12_image_183 : decode cX12_image 183 = .ok (.invokestatic 366, 3) := by decide +kernel
theorem dX12_image_186 : decode cX12_image 186 = .ok (.aload_n 0, 1) := by decide +kernel
theorem dX12_image_187 : decode cX12_image 187 = .ok (.getfield 58, 3) := by decide +kernel
theorem dX12_image_190 : decode cX12_image 190 = .ok (.aload_n 0, 1) := by decide +kernel
theorem dX12_image_191 : decode cX12_image 191 = .ok (.getfield 115, 3) := by decide +kernel
theorem dX12_image_194 : decode cX12_image 194 = .ok (.invokestatic 366, 3) := by decide +kernel
theorem dX12_image_197 : decode cX12_image 197 = .ok (.aload_n 0, 1) := by decide +kernel
theorem dX12_image_198 : decode cX12_image 198 = .ok (.getfield 61, 3) := by decide +kernel
theorem dX12_image_201 : decode cX12_image 201 = .ok (.aload_n 0, 1) := by decide +kernel
theorem dX12_image_202 : decode cX12_image 202 = .ok (.getfield 118, 3) := by decide +kernel
theorem dX12_image_205 : decode cX12_image 205 = .ok (.invokestatic 374, 3) := by decide +kernel
theorem dX12_image_208 : decode cX12_image 208 = .ok (.aload_n 0, 1) := by decide +kernel
theorem dX12_image_209 : decode cX12_image 209 = .ok (.getfield 64, 3) := by decide +kernel
theorem dX12_image_212 : decode cX12_image 212 = .ok (.aload_n 0, 1) := by decide +kernel
theorem dX12_image_213 : decode cX12_image 213 = .ok (.getfield 121, 3) := by decide +kernel
theorem dX12_image_216 : decode cX12_image 216 = .ok (.invokestatic 366, 3) := by decide +kernel
theorem dX12_image_219 : decode cX12_image 219 = .ok (.aload_n 0, 1) := by decide +kernel
theorem dX12_image_220 : decode cX12_image 220 = .ok (.getfield 67, 3) := by decide +kernel
theorem dX12_image_223 : decode cX12_image 223 = .ok (.aload_n 0, 1) := by decide +kernel
theorem dX12_image_224 : decode cX12_image 224 = .ok (.getfield 124, 3) := by decide +kernel
theorem dX12_image_227 : decode cX12_image 227 = .ok (.invokestatic 366, 3) := by decide +kernel
theorem dX12_image_230 : decode cX12_image 230 = .ok (.iconst 1, 1) := by decide +kernel
theorem dX12_image_231 : decode cX12_image 231 = .ok (.ireturn, 1) := by decide +kernel
theorem dX12_back_0 : decode cX12_back 0 = .ok (.aload_n 0, 1) := by decide +kernel
theorem dX12_back_1 : decode cX12_back 1 = .ok (.getfield 356, 3) := by decide +kernel
theorem dX12_back_4 : decode cX12_back 4 = .ok (.ifCond .ne 5, 3) := by decide +kernel
theorem dX12_back_7 : decode cX12_back 7 = .ok (.iconst 0, 1) := by decide +kernel
theorem dX12_back_8 : decode cX12_back 8 = .ok (.ireturn, 1) := by decide +kernel
theorem dX12_back_9 : decode cX12_back 9 = .ok (.aload_n 0, 1) := by decide +kernel
theorem dX12_back_10 : decode cX12_back 10 = .ok (.aload_n 0, 1) := by decide +kernel
theorem dX12_back_11 : decode cX12_back 11 = .ok (.getfield 360, 3) := by decide +kernel
theorem dX12_back_14 : decode cX12_back 14 = .ok (.putfield 267, 3) := by decide +kernel
theorem dX12_back_17 : decode cX12_back 17 = .ok (.aload_n 0, 1) := by decide +kernel
theorem dX12_back_18 : decode cX12_back 18 = .ok (.aload_n 0, 1) := by decide +kernel
theorem dX12_back_19 : decode cX12_back 19 = .ok (.getfield 363, 3) := by decide +kernel
theorem dX12_back_22 : decode cX12_back 22 = .ok (.putfield 336, 3) := by decide +kernel
theorem dX12_back_25 : decode cX12_back 25 = .ok (.aload_n 0, 1) := by decide +kernel
theorem dX12_back_26 : decode cX12_back 26 = .ok (.getfield 70, 3) := by decide +kernel
theorem dX12_back_29 : decode cX12_back 29 = .ok (.aload_n 0, 1) := by decide +kernel
theorem dX12_back_30 : decode cX12_back 30 = .ok (.getfield 9, 3) := by decide +kernel
theorem dX12_back_33 : decode cX12_back 33 = .ok (.invokestatic 366, 3) := by decide +kernel
theorem dX12_back_36 : decode cX12_back 36 = .ok (.aload_n 0, 1) := by decide +kernel
theorem dX12_back_37 : decode cX12_back 37 = .ok (.getfield 73, 3) := by decide +kernel
theorem dX12_back_40 : decode cX12_back 40 = .ok (.aload_n 0, 1) := by decide +kernel
theorem dX12_back_41 : decode cX12_back 41 = .ok (.getfield 13, 3) := by decide +kernel
theorem dX12_back_44 : decode cX12_back 44 = .ok (.invokestatic 366, 3) := by decide +kernel
theorem dX12_back_47 : decode cX12_back 47 = .ok (.aload_n 0, 1) := by decide +kernel
theorem dX12_back_48 : decode cX12_back 48 = .ok (.getfield 76, 3) := by decide +kernel
theorem dX12_back_51 : decode cX12_back 51 = .ok (.aload_n 0, 1) := by decide +kernel
theorem dX12_back_52 : decode cX12_back 52 = .ok (.getfield 16, 3) := by decide +kernel
theorem dX12_back_55 : decode cX12_back 55 = .ok (.invokestatic 370, 3) := by decide +kernel
theorem dX12_back_58 : decode cX12_back 58 = .ok (.aload_n 0, 1) := by decide +kernel
theorem dX12_back_59 : decode cX12_back 59 = .ok (.getfield 79, 3) := by decide +kernel
theorem dX12_back_62 : decode cX12_back 62 = .ok (.aload_n 0, 1) := by decide +kernel
theorem dX12_back_63 : decode cX12_back 63 = .ok (.getfield 20, 3) := by decide +kernel
theorem dX12_back_66 : decode cX12_back 66 = .ok (.invokestatic 374, 3) := by decide +kernel
theorem dX12_back_69 : decode cX12_back 69 = .ok (.aload_n 0, 1) := by decide +kernel
theorem dX12_back_70 : decode cX12_back 70 = .ok (.getfield 82, 3) := by decide +kernel
theorem dX12_back_73 : decode cX12_back 73 = .ok (.aload_n 0, 1) := by decide +kernel
theorem dX12_back_74 : decode cX12_back 74 = .ok (.getfield 24, 3) := by decide +kernel
theorem dX12_back_77 : decode cX12_back 77 = .ok (.invokestatic 374, 3) := by decide +kernel
theorem dX12_back_80 : decode cX12_back 80 = .ok (.aload_n 0, 1) := by decide +kernel
theorem dX12_back_81 : decode cX12_back 81 = .ok (.getfield 85, 3) := by decide +kernel
theorem dX12_back_84 : decode cX12_back 84 = .ok (.aload_n 0, 1) := by decide +kernel
theorem dX12_back_85 : decode cX12_back 85 = .ok (.getfield 27, 3) := by decide +kernel
theorem dX12_back_88 : decode cX12_back 88 = .ok (.invokestatic 366, 3) := by decide +kernel
theorem dX12_back_91 : decode cX12_back 91 = .ok (.aload_n 0, 1) := by decide +kernel
theorem dX12_back_92 : decode cX12_back 92 = .ok (.getfield 88, 3) := by decide +kernel
theorem dX12_back_95 : decode cX12_back 95 = .ok (.aload_n 0, 1) := by decide +kernel
theorem dX12_back_96 : decode cX12_back 96 = .ok (.getfield 30, 3) := by decide +kernel
theorem dX12_back_99 : decode cX12_back 99 = .ok (.invokestatic 366, 3) := by decide +kernel
theorem dX12_back_102 : decode cX12_back 102 = .ok (.aload_n 0, 1) := by decide +kernel
theorem dX12_back_103 : decode cX12_back 103 = .ok (.getfield 91, 3) := by decide +kernel
theorem dX12_back_106 : decode cX12_back 106 = .ok (.aload_n 0, 1) := by decide +kernel
theorem dX12_back_107 : decode cX12_back 107 = .ok (.getfield 33, 3) := by decide +kernel
theorem dX12_back_110 : decode cX12_back 110 = .ok (.invokestatic 374, 3) := by decide +kernel
theorem dX12_back_113 : decode cX12_back 113 = .ok (.aload_n 0, 1) := by decide +kernel
theorem dX12_back_114 : decode cX12_back 114 = .ok (.getfield 94, 3) := by decide +kernel
theorem dX12_back_117 : decode cX12_back 117 = .ok (.aload_n 0, 1) := by decide +kernel
theorem dX12_back_118 : decode cX12_back 118 = .ok (.getfield 36, 3) := by decide +kernel
theorem dX12_back_121 : decode cX12_back 121 = .ok (.invokestatic 366, 3) := by decide +kernel
theorem dX12_back_124 : decode cX12_back 124 = .ok (.aload_n 0, 1) := by decide +kernel
theorem dX12_back_125 : decode cX12_back 125 = .ok (.getfield 97, 3) := by decide +kernel
theorem dX12_back_128 : decode cX12_back 128 = .ok (.aload_n 0, 1) := by decide +kernel
theorem dX12_back_129 : decode cX12_back 129 = .ok (.getfield 39, 3) := by decide +kernel
theorem dX12_back_132 : decode cX12_back 132 = .ok (.invokestatic 366, 3) := by decide +kernel
theorem dX12_back_135 : decode cX12_back 135 = .ok (.aload_n 0, 1) := by decide +kernel
theorem dX12_back_136 : decode cX12_back 136 = .ok (.getfield 100, 3) := by decide +kernel
theorem dX12_back_139 : decode cX12_back 139 = .ok (.aload_n 0, 1) := by decide +kernel
theorem dX12_back_140 : decode cX12_back 140 = .ok (.getfield 42, 3) := by decide +kernel
theorem dX12_back_143 : decode cX12_back 143 = .ok (.invokestatic 370, 3) := by decide +kernel
theorem dX12_back_146 : decode cX12_back 146 = .ok (.aload_n 0, 1) := by decide +kernel
theorem dX12_back_147 : decode cX12_back 147 = .ok (.getfield 103, 3) := by decide +kernel
theorem dX12_back_150 : decode cX12_back 150 = .ok (.aload_n 0, 1) := by decide +kernel
theorem dX12_back_151 : decode cX12_back 151 = .ok (.getfield 46, 3) := by decide +kernel
theorem dX12_back_154 : decode cX12_back 154 = .ok (.invokestatic 366, 3) := by decide +kernel
theorem dX12_back_157 : decode cX12_back 157 = .ok (.aload_n 0, 1) := by decide +kernel
theorem dX12_back_158 : decode cX12_back 158 = .ok (.getfield 106, 3) := by decide +kernel
theorem dX12_back_161 : decode cX12_back 161 = .ok (.aload_n 0, 1) := by decide +kernel
theorem dX12_back_162 : decode cX12_back 162 = .ok (.getfield 49, 3) := by decide +kernel
theorem dX12_back_165 : decode cX12_back 165 = .ok (.invokestatic 366, 3) := by decide +kernel
theorem dX12_back_168 : decode cX12_back 168 = .ok (.aload_n 0, 1) := by decide +kernel
theorem dX12_back_169 : decode cX12_back 169 = .ok (.getfield 109, 3) := by decide +kernel
theorem dX12_back_172 : decode cX12_back 172 = .ok (.aload_n 0, 1) := by decide +kernel
theorem dX12_back_173 : decode cX12_back 173 = .ok (.getfield 52, 3) := by decide +kernel
theorem dX12_back_176 : decode cX12_back 176 = .ok (.invokestatic 374, 3) := by decide +kernel
theorem dX12_back_179 : decode cX12_back 179 = .ok (.aload_n 0, 1) := by decide +kernel
theorem dX12_back_180 : decode cX12_back 180 = .ok (.getfield 112, 3) := by decide +kernel
theorem dX12_back_183 : decode cX12_back 183 = .ok (.aload_n 0, 1) := by decide +kernel
theorem dX12_back_184 : decode cX12_back 184 = .ok (.getfield 55, 3) := by decide +kernel
theorem dX12_back_187 : decode cX12_back 187 = .ok (.invokestatic 366, 3) := by decide +kernel
theorem dX12_back_190 : decode cX12_back 190 = .ok (.aload_n 0, 1) := by decide +kernel
theorem dX12_back_191 : decode cX12_back 191 = .ok (.getfield 115, 3) := by decide +kernel
theorem dX12_back_194 : decode cX12_back 194 = .ok (.aload_n 0, 1) := by decide +kernel
theorem dX12_back_195 : decode cX12_back 195 = .ok (.getfield 58, 3) := by decide +kernel
theorem dX12_back_198 : decode cX12_back 198 = .ok (.invokestatic 366, 3) := by decide +kernel
theorem dX12_back_201 : decode cX12_back 201 = .ok (.aload_n 0, 1) := by decide +kernel
theorem dX12_back_202 : decode cX12_back 202 = .ok (.getfield 118, 3) := by decide +kernel
theorem dX12_back_205 : decode cX12_back 205 = .ok (.aload_n 0, 1) := by decide +kernel
theorem dX12_back_206 : decode cX12_back 206 = .ok (.getfield 61, 3) := by decide +kernel
theorem dX12_back_209 : decode cX12_back 209 = .ok (.invokestatic 374, 3) := by decide +kernel
theorem dX12_back_212 : decode cX12_back 212 = .ok (.aload_n 0, 1) := by decide +kernel
theorem dX12_back_213 : decode cX12_back 213 = .ok (.getfield 121, 3) := by decide +kernel
theorem dX12_back_216 : decode cX12_back 216 = .ok (.aload_n 0, 1) := by decide +kernel
theorem dX12_back_217 : decode cX12_back 217 = .ok (.getfield 64, 3) := by decide +kernel
theorem dX12_back_220 : decode cX12_back 220 = .ok (.invokestatic 366, 3) := by decide +kernel
theorem dX12_back_223 : decode cX12_back 223 = .ok (.aload_n 0, 1) := by decide +kernel
theorem dX12_back_224 : decode cX12_back 224 = .ok (.getfield 124, 3) := by decide +kernel
theorem dX12_back_227 : decode cX12_back 227 = .ok (.aload_n 0, 1) := by decide +kernel
theorem dX12_back_228 : decode cX12_back 228 = .ok (.getfield 67, 3) := by decide +kernel
theorem dX12_back_231 : decode cX12_back 231 = .ok (.invokestatic 366, 3) := by decide +kernel
theorem dX12_back_234 : decode cX12_back 234 = .ok (.iconst 1, 1) := by decide +kernel
theorem dX12_back_235 : decode cX12_back 235 = .ok (.ireturn, 1) := by decide +kernel
