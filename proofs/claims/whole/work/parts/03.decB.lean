theorem dX1_init_0 : decode cX1_init 0 = .ok (.aload_n 0, 1) := by decide +kernel
theorem dX1_init_1 : decode cX1_init 1 = .ok (.invokespecial 3, 3) := by decide +kernel
theorem dX1_init_4 : decode cX1_init 4 = .ok (.aload_n 0, 1) := by decide +kernel
theorem dX1_init_5 : decode cX1_init 5 = .ok (.bipush 6, 2) := by decide +kernel
theorem dX1_init_7 : decode cX1_init 7 = .ok (.anewarray 9, 3) := by decide +kernel
theorem dX1_init_10 : decode cX1_init 10 = .ok (.putfield 11, 3) := by decide +kernel
theorem dX1_init_13 : decode cX1_init 13 = .ok (.aload_n 0, 1) := by decide +kernel
theorem dX1_init_14 : decode cX1_init 14 = .ok (.bipush 16, 2) := by decide +kernel
theorem dX1_init_16 : decode cX1_init 16 = .ok (.anewarray 17, 3) := by decide +kernel
theorem dX1_init_19 : decode cX1_init 19 = .ok (.putfield 19, 3) := by decide +kernel
theorem dX1_init_22 : decode cX1_init 22 = .ok (.aload_n 0, 1) := by decide +kernel
theorem dX1_init_23 : decode cX1_init 23 = .ok (.bipush 12, 2) := by decide +kernel
theorem dX1_init_25 : decode cX1_init 25 = .ok (.anewarray 23, 3) := by decide +kernel
theorem dX1_init_28 : decode cX1_init 28 = .ok (.putfield 25, 3) := by decide +kernel
theorem dX1_init_31 : decode cX1_init 31 = .ok (.aload_n 0, 1) := by decide +kernel
theorem dX1_init_32 : decode cX1_init 32 = .ok (.bipush 12, 2) := by decide +kernel
theorem dX1_init_34 : decode cX1_init 34 = .ok (.newarray .int, 2) := by decide +kernel
theorem dX1_init_36 : decode cX1_init 36 = .ok (.putfield 29, 3) := by decide +kernel
theorem dX1_init_39 : decode cX1_init 39 = .ok (.aload_n 0, 1) := by decide +kernel
theorem dX1_init_40 : decode cX1_init 40 = .ok (.bipush 60, 2) := by decide +kernel
theorem dX1_init_42 : decode cX1_init 42 = .ok (.anewarray 23, 3) := by decide +kernel
theorem dX1_init_45 : decode cX1_init 45 = .ok (.putfield 33, 3) := by decide +kernel
theorem dX1_init_48 : decode cX1_init 48 = .ok (.aload_n 0, 1) := by decide +kernel
theorem dX1_init_49 : decode cX1_init 49 = .ok (.bipush 60, 2) := by decide +kernel
theorem dX1_init_51 : decode cX1_init 51 = .ok (.anewarray 23, 3) := by decide +kernel
theorem dX1_init_54 : decode cX1_init 54 = .ok (.putfield 36, 3) := by decide +kernel
theorem dX1_init_57 : decode cX1_init 57 = .ok (.aload_n 0, 1) := by decide +kernel
theorem dX1_init_58 : decode cX1_init 58 = .ok (.bipush 8, 2) := by decide +kernel
theorem dX1_init_60 : decode cX1_init 60 = .ok (.anewarray 39, 3) := by decide +kernel
theorem dX1_init_63 : decode cX1_init 63 = .ok (.putfield 41, 3) := by decide +kernel
theorem dX1_init_66 : decode cX1_init 66 = .ok (.iconst 0, 1) := by decide +kernel
theorem dX1_init_67 : decode cX1_init 67 = .ok (.istore_n 1, 1) := by decide +kernel
theorem dX1_init_68 : decode cX1_init 68 = .ok (.iload_n 1, 1) := by decide +kernel
theorem dX1_init_69 : decode cX1_init 69 = .ok (.bipush 16, 2) := by decide +kernel
theorem dX1_init_71 : decode cX1_init 71 = .ok (.if_icmp .ge 22, 3) := by decide +kernel
theorem dX1_init_74 : decode cX1_init 74 = .ok (.aload_n 0, 1) := by decide +kernel
theorem dX1_init_75 : decode cX1_init 75 = .ok (.getfield 19, 3) := by decide +kernel
theorem dX1_init_78 : decode cX1_init 78 = .ok (.iload_n 1, 1) := by decide +kernel
theorem dX1_init_79 : decode cX1_init 79 = .ok (.new 17, 3) := by decide +kernel
theorem dX1_init_82 : decode cX1_init 82 = .ok (.dup, 1) := by decide +kernel
theorem dX1_init_83 : decode cX1_init 83 = .ok (.invokespecial 45, 3) := by decide +kernel
theorem dX1_init_86 : decode cX1_init 86 = .ok (.aastore, 1) := by decide +kernel
theorem dX1_init_87 : decode cX1_init 87 = .ok (.iinc 1 1, 3) := by decide +kernel
theorem dX1_init_90 : decode cX1_init 90 = .ok (.goto (-22), 3) := by decide +kernel
theorem dX1_init_93 : decode cX1_init 93 = .ok (.iconst 0, 1) := by decide +kernel
theorem dX1_init_94 : decode cX1_init 94 = .ok (.istore_n 1, 1) := by decide +kernel
theorem dX1_init_95 : decode cX1_init 95 = .ok (.iload_n 1, 1) := by decide +kernel
theorem dX1_init_96 : decode cX1_init 96 = .ok (.bipush 12, 2) := by decide +kernel
theorem dX1_init_98 : decode cX1_init 98 = .ok (.if_icmp .ge 22, 3) := by decide +kernel
theorem dX1_init_101 : decode cX1_init 101 = .ok (.aload_n 0, 1) := by decide +kernel
theorem dX1_init_102 : decode cX1_init 102 = .ok (.getfield 25, 3) := by decide +kernel
theorem dX1_init_105 : decode cX1_init 105 = .ok (.iload_n 1, 1) := by decide +kernel
theorem dX1_init_106 : decode cX1_init 106 = .ok (.new 23, 3) := by decide +kernel
theorem dX1_init_109 : decode cX1_init 109 = .ok (.dup, 1) := by decide +kernel
theorem dX1_init_110 : decode cX1_init 110 = .ok (.invokespecial 46, 3) := by decide +kernel
theorem dX1_init_113 : decode cX1_init 113 = .ok (.aastore, 1) := by decide +kernel
theorem dX1_init_114 : decode cX1_init 114 = .ok (.iinc 1 1, 3) := by decide +kernel
theorem dX1_init_117 : decode cX1_init 117 = .ok (.goto (-22), 3) := by decide +kernel
theorem dX1_init_120 : decode cX1_init 120 = .ok (.iconst 0, 1) := by decide +kernel
theorem dX1_init_121 : decode cX1_init 121 = .ok (.istore_n 1, 1) := by decide +kernel
theorem dX1_init_122 : decode cX1_init 122 = .ok (.iload_n 1, 1) := by decide +kernel
theorem dX1_init_123 : decode cX1_init 123 = .ok (.bipush 8, 2) := by decide +kernel
theorem dX1_init_125 : decode cX1_init 125 = .ok (.if_icmp .ge 22, 3) := by decide +kernel
theorem dX1_init_128 : decode cX1_init 128 = .ok (.aload_n 0, 1) := by decide +kernel
theorem dX1_init_129 : decode cX1_init 129 = .ok (.getfield 41, 3) := by decide +kernel
theorem dX1_init_132 : decode cX1_init 132 = .ok (.iload_n 1, 1) := by decide +kernel
theorem dX1_init_133 : decode cX1_init 133 = .ok (.new 39, 3) := by decide +kernel
theorem dX1_init_136 : decode cX1_init 136 = .ok (.dup, 1) := by decide +kernel
theorem dX1_init_137 : decode cX1_init 137 = .ok (.invokespecial 47, 3) := by decide +kernel
theorem dX1_init_140 : decode cX1_init 140 = .ok (.aastore, 1) := by decide +kernel
theorem dX1_init_141 : decode cX1_init 141 = .ok (.iinc 1 1, 3) := by decide +kernel
theorem dX1_init_144 : decode cX1_init 144 = .ok (.goto (-22), 3) := by decide +kernel
theorem dX1_init_147 : decode cX1_init 147 = .ok (.return_, 1) := by decide +kernel
theorem dX1_logAt_0 : decode cX1_logAt 0 = .ok (.iload_n 1, 1) := by decide +kernel
theorem dX1_logAt_1 : decode cX1_logAt 1 = .ok (.ifCond .lt 20, 3) := by decide +kernel
theorem dX1_logAt_4 : decode cX1_logAt 4 = .ok (.iload_n 1, 1) := by decide +kernel
theorem dX1_logAt_5 : decode cX1_logAt 5 = .ok (.aload_n 0, 1) := by decide +kernel
theorem dX1_logAt_6 : decode cX1_logAt 6 = .ok (.getfield 48, 3) := by decide +kernel
theorem dX1_logAt_9 : decode cX1_logAt 9 = .ok (.if_icmp .ge 12, 3) := by decide +kernel
theorem dX1_logAt_12 : decode cX1_logAt 12 = .ok (.aload_n 0, 1) := by decide +kernel
theorem dX1_logAt_13 : decode cX1_logAt 13 = .ok (.getfield 11, 3) := by decide +kernel
theorem dX1_logAt_16 : decode cX1_logAt 16 = .ok (.iload_n 1, 1) := by decide +kernel
theorem dX1_logAt_17 : decode cX1_logAt 17 = .ok (.aaload, 1) := by decide +kernel
theorem dX1_logAt_18 : decode cX1_logAt 18 = .ok (.goto 4, 3) := by decide +kernel
theorem dX1_logAt_21 : decode cX1_logAt 21 = .ok (.aconst_null, 1) := by decide +kernel
theorem dX1_logAt_22 : decode cX1_logAt 22 = .ok (.areturn, 1) := by decide +kernel
theorem dX1_nextLog_0 : decode cX1_nextLog 0 = .ok (.aload_n 0, 1) := by decide +kernel
theorem dX1_nextLog_1 : decode cX1_nextLog 1 = .ok (.getfield 48, 3) := by decide +kernel
theorem dX1_nextLog_4 : decode cX1_nextLog 4 = .ok (.bipush 6, 2) := by decide +kernel
theorem dX1_nextLog_6 : decode cX1_nextLog 6 = .ok (.if_icmp .lt 5, 3) := by decide +kernel
theorem dX1_nextLog_9 : decode cX1_nextLog 9 = .ok (.aconst_null, 1) := by decide +kernel
theorem dX1_nextLog_10 : decode cX1_nextLog 10 = .ok (.areturn, 1) := by decide +kernel
theorem dX1_nextLog_11 : decode cX1_nextLog 11 = .ok (.aload_n 0, 1) := by decide +kernel
theorem dX1_nextLog_12 : decode cX1_nextLog 12 = .ok (.getfield 11, 3) := by decide +kernel
theorem dX1_nextLog_15 : decode cX1_nextLog 15 = .ok (.aload_n 0, 1) := by decide +kernel
theorem dX1_nextLog_16 : decode cX1_nextLog 16 = .ok (.getfield 48, 3) := by decide +kernel
theorem dX1_nextLog_19 : decode cX1_nextLog 19 = .ok (.aaload, 1) := by decide +kernel
theorem dX1_nextLog_20 : decode cX1_nextLog 20 = .ok (.ifnonnull 19, 3) := by decide +kernel
theorem dX1_nextLog_23 : decode cX1_nextLog 23 = .ok (.aload_n 0, 1) := by decide +kernel
theorem dX1_nextLog_24 : decode cX1_nextLog 24 = .ok (.getfield 11, 3) := by decide +kernel
theorem dX1_nextLog_27 : decode cX1_nextLog 27 = .ok (.aload_n 0, 1) := by decide +kernel
theorem dX1_nextLog_28 : decode cX1_nextLog 28 = .ok (.getfield 48, 3) := by decide +kernel
theorem dX1_nextLog_31 : decode cX1_nextLog 31 = .ok (.new 9, 3) := by decide +kernel
theorem dX1_nextLog_34 : decode cX1_nextLog 34 = .ok (.dup, 1) := by decide +kernel
theorem dX1_nextLog_35 : decode cX1_nextLog 35 = .ok (.invokespecial 52, 3) := by decide +kernel
theorem dX1_nextLog_38 : decode cX1_nextLog 38 = .ok (.aastore, 1) := by decide +kernel
theorem dX1_nextLog_39 : decode cX1_nextLog 39 = .ok (.aload_n 0, 1) := by decide +kernel
theorem dX1_nextLog_40 : decode cX1_nextLog 40 = .ok (.dup, 1) := by decide +kernel
theorem dX1_nextLog_41 : decode cX1_nextLog 41 = .ok (.getfield 48, 3) := by decide +kernel
theorem dX1_nextLog_44 : decode cX1_nextLog 44 = .ok (.iconst 1, 1) := by decide +kernel
theorem dX1_nextLog_45 : decode cX1_nextLog 45 = .ok (.iadd, 1) := by decide +kernel
theorem dX1_nextLog_46 : decode cX1_nextLog 46 = .ok (.putfield 48, 3) := by decide +kernel
theorem dX1_nextLog_49 : decode cX1_nextLog 49 = .ok (.aload_n 0, 1) := by decide +kernel
theorem dX1_nextLog_50 : decode cX1_nextLog 50 = .ok (.getfield 11, 3) := by decide +kernel
theorem dX1_nextLog_53 : decode cX1_nextLog 53 = .ok (.aload_n 0, 1) := by decide +kernel
theorem dX1_nextLog_54 : decode cX1_nextLog 54 = .ok (.getfield 48, 3) := by decide +kernel
theorem dX1_nextLog_57 : decode cX1_nextLog 57 = .ok (.iconst 1, 1) := by decide +kernel
theorem dX1_nextLog_58 : decode cX1_nextLog 58 = .ok (.isub, 1) := by decide +kernel
theorem dX1_nextLog_59 : decode cX1_nextLog 59 = .ok (.aaload, 1) := by decide +kernel
theorem dX1_nextLog_60 : decode cX1_nextLog 60 = .ok (.areturn, 1) := by decide +kernel
theorem dX1_slotAt_0 : decode cX1_slotAt 0 = .ok (.iload_n 1, 1) := by decide +kernel
theorem dX1_slotAt_1 : decode cX1_slotAt 1 = .ok (.ifCond .lt 18, 3) := by decide +kernel
theorem dX1_slotAt_4 : decode cX1_slotAt 4 = .ok (.iload_n 1, 1) := by decide +kernel
theorem dX1_slotAt_5 : decode cX1_slotAt 5 = .ok (.bipush 16, 2) := by decide +kernel
theorem dX1_slotAt_7 : decode cX1_slotAt 7 = .ok (.if_icmp .ge 12, 3) := by decide +kernel
theorem dX1_slotAt_10 : decode cX1_slotAt 10 = .ok (.aload_n 0, 1) := by decide +kernel
theorem dX1_slotAt_11 : decode cX1_slotAt 11 = .ok (.getfield 19, 3) := by decide +kernel
theorem dX1_slotAt_14 : decode cX1_slotAt 14 = .ok (.iload_n 1, 1) := by decide +kernel
theorem dX1_slotAt_15 : decode cX1_slotAt 15 = .ok (.aaload, 1) := by decide +kernel
theorem dX1_slotAt_16 : decode cX1_slotAt 16 = .ok (.goto 4, 3) := by decide +kernel
theorem dX1_slotAt_19 : decode cX1_slotAt 19 = .ok (.aconst_null, 1) := by decide +kernel
theorem dX1_slotAt_20 : decode cX1_slotAt 20 = .ok (.areturn, 1) := by decide +kernel
theorem dX1_headOf_0 : decode cX1_headOf 0 = .ok (.iload_n 1, 1) := by decide +kernel
theorem dX1_headOf_1 : decode cX1_headOf 1 = .ok (.ifCond .lt 30, 3) := by decide +kernel
theorem dX1_headOf_4 : decode cX1_headOf 4 = .ok (.iload_n 1, 1) := by decide +kernel
theorem dX1_headOf_5 : decode cX1_headOf 5 = .ok (.bipush 12, 2) := by decide +kernel
theorem dX1_headOf_7 : decode cX1_headOf 7 = .ok (.if_icmp .ge 24, 3) := by decide +kernel
theorem dX1_headOf_10 : decode cX1_headOf 10 = .ok (.aload_n 0, 1) := by decide +kernel
theorem dX1_headOf_11 : decode cX1_headOf 11 = .ok (.getfield 25, 3) := by decide +kernel
theorem dX1_headOf_14 : decode cX1_headOf 14 = .ok (.iload_n 1, 1) := by decide +kernel
theorem dX1_headOf_15 : decode cX1_headOf 15 = .ok (.aaload, 1) := by decide +kernel
theorem dX1_headOf_16 : decode cX1_headOf 16 = .ok (.getfield 53, 3) := by decide +kernel
theorem dX1_headOf_19 : decode cX1_headOf 19 = .ok (.ifCond .eq 12, 3) := by decide +kernel
theorem dX1_headOf_22 : decode cX1_headOf 22 = .ok (.aload_n 0, 1) := by decide +kernel
theorem dX1_headOf_23 : decode cX1_headOf 23 = .ok (.getfield 25, 3) := by decide +kernel
theorem dX1_headOf_26 : decode cX1_headOf 26 = .ok (.iload_n 1, 1) := by decide +kernel
theorem dX1_headOf_27 : decode cX1_headOf 27 = .ok (.aaload, 1) := by decide +kernel
theorem dX1_headOf_28 : decode cX1_headOf 28 = .ok (.goto 4, 3) := by decide +kernel
theorem dX1_headOf_31 : decode cX1_headOf 31 = .ok (.aconst_null, 1) := by decide +kernel
theorem dX1_headOf_32 : decode cX1_headOf 32 = .ok (.areturn, 1) := by decide +kernel
theorem dX1_watcherAt_0 : decode cX1_watcherAt 0 = .ok (.iload_n 1, 1) := by decide +kernel
theorem dX1_watcherAt_1 : decode cX1_watcherAt 1 = .ok (.ifCond .lt 30, 3) := by decide +kernel
theorem dX1_watcherAt_4 : decode cX1_watcherAt 4 = .ok (.iload_n 1, 1) := by decide +kernel
theorem dX1_watcherAt_5 : decode cX1_watcherAt 5 = .ok (.bipush 8, 2) := by decide +kernel
theorem dX1_watcherAt_7 : decode cX1_watcherAt 7 = .ok (.if_icmp .ge 24, 3) := by decide +kernel
theorem dX1_watcherAt_10 : decode cX1_watcherAt 10 = .ok (.aload_n 0, 1) := by decide +kernel
theorem dX1_watcherAt_11 : decode cX1_watcherAt 11 = .ok (.getfield 41, 3) := by decide +kernel
theorem dX1_watcherAt_14 : decode cX1_watcherAt 14 = .ok (.iload_n 1, 1) := by decide +kernel
theorem dX1_watcherAt_15 : decode cX1_watcherAt 15 = .ok (.aaload, 1) := by decide +kernel
theorem dX1_watcherAt_16 : decode cX1_watcherAt 16 = .ok (.getfield 57, 3) := by decide +kernel
theorem dX1_watcherAt_19 : decode cX1_watcherAt 19 = .ok (.ifCond .eq 12, 3) := by decide +kernel
theorem dX1_watcherAt_22 : decode cX1_watcherAt 22 = .ok (.aload_n 0, 1) := by decide +kernel
theorem dX1_watcherAt_23 : decode cX1_watcherAt 23 = .ok (.getfield 41, 3) := by decide +kernel
theorem dX1_watcherAt_26 : decode cX1_watcherAt 26 = .ok (.iload_n 1, 1) := by decide +kernel
theorem dX1_watcherAt_27 : decode cX1_watcherAt 27 = .ok (.aaload, 1) := by decide +kernel
theorem dX1_watcherAt_28 : decode cX1_watcherAt 28 = .ok (.goto 4, 3) := by decide +kernel
theorem dX1_watcherAt_31 : decode cX1_watcherAt 31 = .ok (.aconst_null, 1) := by decide +kernel
theorem dX1_watcherAt_32 : decode cX1_watcherAt 32 = .ok (.areturn, 1) := by decide +kernel
theorem dX1_firstBlamed_0 : decode cX1_firstBlamed 0 = .ok (.iload_n 1, 1) := by decide +kernel
theorem dX1_firstBlamed_1 : decode cX1_firstBlamed 1 = .ok (.ifCond .lt 20, 3) := by decide +kernel
theorem dX1_firstBlamed_4 : decode cX1_firstBlamed 4 = .ok (.iload_n 1, 1) := by decide +kernel
theorem dX1_firstBlamed_5 : decode cX1_firstBlamed 5 = .ok (.aload_n 0, 1) := by decide +kernel
theorem dX1_firstBlamed_6 : decode cX1_firstBlamed 6 = .ok (.getfield 58, 3) := by decide +kernel
theorem dX1_firstBlamed_9 : decode cX1_firstBlamed 9 = .ok (.if_icmp .ge 12, 3) := by decide +kernel
theorem dX1_firstBlamed_12 : decode cX1_firstBlamed 12 = .ok (.aload_n 0, 1) := by decide +kernel
theorem dX1_firstBlamed_13 : decode cX1_firstBlamed 13 = .ok (.getfield 33, 3) := by decide +kernel
theorem dX1_firstBlamed_16 : decode cX1_firstBlamed 16 = .ok (.iload_n 1, 1) := by decide +kernel
theorem dX1_firstBlamed_17 : decode cX1_firstBlamed 17 = .ok (.aaload, 1) := by decide +kernel
theorem dX1_firstBlamed_18 : decode cX1_firstBlamed 18 = .ok (.goto 4, 3) := by decide +kernel
theorem dX1_firstBlamed_21 : decode cX1_firstBlamed 21 = .ok (.aconst_null, 1) := by decide +kernel
theorem dX1_firstBlamed_22 : decode cX1_firstBlamed 22 = .ok (.areturn, 1) := by decide +kernel
theorem dX1_secondBlamed_0 : decode cX1_secondBlamed 0 = .ok (.iload_n 1, 1) := by decide +kernel
theorem dX1_secondBlamed_1 : decode cX1_secondBlamed 1 = .ok (.ifCond .lt 20, 3) := by decide +kernel
theorem dX1_secondBlamed_4 : decode cX1_secondBlamed 4 = .ok (.iload_n 1, 1) := by decide +kernel
theorem dX1_secondBlamed_5 : decode cX1_secondBlamed 5 = .ok (.aload_n 0, 1) := by decide +kernel
theorem dX1_secondBlamed_6 : decode cX1_secondBlamed 6 = .ok (.getfield 58, 3) := by decide +kernel
theorem dX1_secondBlamed_9 : decode cX1_secondBlamed 9 = .ok (.if_icmp .ge 12, 3) := by decide +kernel
theorem dX1_secondBlamed_12 : decode cX1_secondBlamed 12 = .ok (.aload_n 0, 1) := by decide +kernel
theorem dX1_secondBlamed_13 : decode cX1_secondBlamed 13 = .ok (.getfield 36, 3) := by decide +kernel
theorem dX1_secondBlamed_16 : decode cX1_secondBlamed 16 = .ok (.iload_n 1, 1) := by decide +kernel
theorem dX1_secondBlamed_17 : decode cX1_secondBlamed 17 = .ok (.aaload, 1) := by decide +kernel
theorem dX1_secondBlamed_18 : decode cX1_secondBlamed 18 = .ok (.goto 4, 3) := by decide +kernel
theorem dX1_secondBlamed_21 : decode cX1_secondBlamed 21 = .ok (.aconst_null, 1) := by decide +kernel
theorem dX1_secondBlamed_22 : decode cX1_secondBlamed 22 = .ok (.areturn, 1) := by decide +kernel
theorem dX1_tellBlame_0 : decode cX1_tellBlame 0 = .ok (.aload_n 0, 1) := by decide +kernel
theorem dX1_tellBlame_1 : decode cX1_tellBlame 1 = .ok (.getfield 58, 3) := by decide +kernel
theorem dX1_tellBlame_4 : decode cX1_tellBlame 4 = .ok (.bipush 60, 2) := by decide +kernel
theorem dX1_tellBlame_6 : decode cX1_tellBlame 6 = .ok (.if_icmp .ge 11, 3) := by decide +kernel
theorem dX1_tellBlame_9 : decode cX1_tellBlame 9 = .ok (.aload_n 1, 1) := by decide +kernel
theorem dX1_tellBlame_10 : decode cX1_tellBlame 10 = .ok (.ifnull 7, 3) := by decide +kernel
theorem dX1_tellBlame_13 : decode cX1_tellBlame 13 = .ok (.aload_n 2, 1) := by decide +kernel
theorem dX1_tellBlame_14 : decode cX1_tellBlame 14 = .ok (.ifnonnull 4, 3) := by decide +kernel
theorem dX1_tellBlame_17 : decode cX1_tellBlame 17 = .ok (.return_, 1) := by decide +kernel
theorem dX1_tellBlame_18 : decode cX1_tellBlame 18 = .ok (.aload_n 0, 1) := by decide +kernel
theorem dX1_tellBlame_19 : decode cX1_tellBlame 19 = .ok (.getfield 33, 3) := by decide +kernel
theorem dX1_tellBlame_22 : decode cX1_tellBlame 22 = .ok (.aload_n 0, 1) := by decide +kernel
theorem dX1_tellBlame_23 : decode cX1_tellBlame 23 = .ok (.getfield 58, 3) := by decide +kernel
theorem dX1_tellBlame_26 : decode cX1_tellBlame 26 = .ok (.aaload, 1) := by decide +kernel
theorem dX1_tellBlame_27 : decode cX1_tellBlame 27 = .ok (.ifnull 15, 3) := by decide +kernel
theorem dX1_tellBlame_30 : decode cX1_tellBlame 30 = .ok (.aload_n 0, 1) := by decide +kernel
theorem dX1_tellBlame_31 : decode cX1_tellBlame 31 = .ok (.getfield 36, 3) := by decide +kernel
theorem dX1_tellBlame_34 : decode cX1_tellBlame 34 = .ok (.aload_n 0, 1) := by decide +kernel
theorem dX1_tellBlame_35 : decode cX1_tellBlame 35 = .ok (.getfield 58, 3) := by decide +kernel
theorem dX1_tellBlame_38 : decode cX1_tellBlame 38 = .ok (.aaload, 1) := by decide +kernel
theorem dX1_tellBlame_39 : decode cX1_tellBlame 39 = .ok (.ifnonnull 35, 3) := by decide +kernel
theorem dX1_tellBlame_42 : decode cX1_tellBlame 42 = .ok (.aload_n 0, 1) := by decide +kernel
theorem dX1_tellBlame_43 : decode cX1_tellBlame 43 = .ok (.getfield 33, 3) := by decide +kernel
theorem dX1_tellBlame_46 : decode cX1_tellBlame 46 = .ok (.aload_n 0, 1) := by decide +kernel
theorem dX1_tellBlame_47 : decode cX1_tellBlame 47 = .ok (.getfield 58, 3) := by decide +kernel
theorem dX1_tellBlame_50 : decode cX1_tellBlame 50 = .ok (.new 23, 3) := by decide +kernel
theorem dX1_tellBlame_53 : decode cX1_tellBlame 53 = .ok (.dup, 1) := by decide +kernel
theorem dX1_tellBlame_54 : decode cX1_tellBlame 54 = .ok (.invokespecial 46, 3) := by decide +kernel
theorem dX1_tellBlame_57 : decode cX1_tellBlame 57 = .ok (.aastore, 1) := by decide +kernel
theorem dX1_tellBlame_58 : decode cX1_tellBlame 58 = .ok (.aload_n 0, 1) := by decide +kernel
theorem dX1_tellBlame_59 : decode cX1_tellBlame 59 = .ok (.getfield 36, 3) := by decide +kernel
theorem dX1_tellBlame_62 : decode cX1_tellBlame 62 = .ok (.aload_n 0, 1) := by decide +kernel
theorem dX1_tellBlame_63 : decode cX1_tellBlame 63 = .ok (.getfield 58, 3) := by decide +kernel
theorem dX1_tellBlame_66 : decode cX1_tellBlame 66 = .ok (.new 23, 3) := by decide +kernel
theorem dX1_tellBlame_69 : decode cX1_tellBlame 69 = .ok (.dup, 1) := by decide +kernel
theorem dX1_tellBlame_70 : decode cX1_tellBlame 70 = .ok (.invokespecial 46, 3) := by decide +kernel
theorem dX1_tellBlame_73 : decode cX1_tellBlame 73 = .ok (.aastore, 1) := by decide +kernel
theorem dX1_tellBlame_74 : decode cX1_tellBlame 74 = .ok (.aload_n 0, 1) := by decide +kernel
theorem dX1_tellBlame_75 : decode cX1_tellBlame 75 = .ok (.getfield 33, 3) := by decide +kernel
theorem dX1_tellBlame_78 : decode cX1_tellBlame 78 = .ok (.aload_n 0, 1) := by decide +kernel
theorem dX1_tellBlame_79 : decode cX1_tellBlame 79 = .ok (.getfield 58, 3) := by decide +kernel
theorem dX1_tellBlame_82 : decode cX1_tellBlame 82 = .ok (.aaload, 1) := by decide +kernel
theorem dX1_tellBlame_83 : decode cX1_tellBlame 83 = .ok (.aload_n 1, 1) := by decide +kernel
theorem dX1_tellBlame_84 : decode cX1_tellBlame 84 = .ok (.invokevirtual 61, 3) := by decide +kernel
theorem dX1_tellBlame_87 : decode cX1_tellBlame 87 = .ok (.aload_n 0, 1) := by decide +kernel
theorem dX1_tellBlame_88 : decode cX1_tellBlame 88 = .ok (.getfield 36, 3) := by decide +kernel
theorem dX1_tellBlame_91 : decode cX1_tellBlame 91 = .ok (.aload_n 0, 1) := by decide +kernel
theorem dX1_tellBlame_92 : decode cX1_tellBlame 92 = .ok (.getfield 58, 3) := by decide +kernel
theorem dX1_tellBlame_95 : decode cX1_tellBlame 95 = .ok (.aaload, 1) := by decide +kernel
theorem dX1_tellBlame_96 : decode cX1_tellBlame 96 = .ok (.aload_n 2, 1) := by decide +kernel
theorem dX1_tellBlame_97 : decode cX1_tellBlame 97 = .ok (.invokevirtual 61, 3) := by decide +kernel
theorem dX1_tellBlame_100 : decode cX1_tellBlame 100 = .ok (.aload_n 0, 1) := by decide +kernel
theorem dX1_tellBlame_101 : decode cX1_tellBlame 101 = .ok (.dup, 1) := by decide +kernel
theorem dX1_tellBlame_102 : decode cX1_tellBlame 102 = .ok (.getfield 58, 3) := by decide +kernel
theorem dX1_tellBlame_105 : decode cX1_tellBlame 105 = .ok (.iconst 1, 1) := by decide +kernel
theorem dX1_tellBlame_106 : decode cX1_tellBlame 106 = .ok (.iadd, 1) := by decide +kernel
theorem dX1_tellBlame_107 : decode cX1_tellBlame 107 = .ok (.putfield 58, 3) := by decide +kernel
theorem dX1_tellBlame_110 : decode cX1_tellBlame 110 = .ok (.return_, 1) := by decide +kernel
theorem dX1_fullSlots_0 : decode cX1_fullSlots 0 = .ok (.iconst 0, 1) := by decide +kernel
theorem dX1_fullSlots_1 : decode cX1_fullSlots 1 = .ok (.istore_n 1, 1) := by decide +kernel
theorem dX1_fullSlots_2 : decode cX1_fullSlots 2 = .ok (.iconst 0, 1) := by decide +kernel
theorem dX1_fullSlots_3 : decode cX1_fullSlots 3 = .ok (.istore_n 2, 1) := by decide +kernel
theorem dX1_fullSlots_4 : decode cX1_fullSlots 4 = .ok (.iload_n 2, 1) := by decide +kernel
theorem dX1_fullSlots_5 : decode cX1_fullSlots 5 = .ok (.bipush 16, 2) := by decide +kernel
theorem dX1_fullSlots_7 : decode cX1_fullSlots 7 = .ok (.if_icmp .ge 24, 3) := by decide +kernel
theorem dX1_fullSlots_10 : decode cX1_fullSlots 10 = .ok (.aload_n 0, 1) := by decide +kernel
theorem dX1_fullSlots_11 : decode cX1_fullSlots 11 = .ok (.getfield 19, 3) := by decide +kernel
theorem dX1_fullSlots_14 : decode cX1_fullSlots 14 = .ok (.iload_n 2, 1) := by decide +kernel
theorem dX1_fullSlots_15 : decode cX1_fullSlots 15 = .ok (.aaload, 1) := by decide +kernel
theorem dX1_fullSlots_16 : decode cX1_fullSlots 16 = .ok (.getfield 65, 3) := by decide +kernel
theorem dX1_fullSlots_19 : decode cX1_fullSlots 19 = .ok (.ifCond .eq 6, 3) := by decide +kernel
theorem dX1_fullSlots_22 : decode cX1_fullSlots 22 = .ok (.iinc 1 1, 3) := by decide +kernel
theorem dX1_fullSlots_25 : decode cX1_fullSlots 25 = .ok (.iinc 2 1, 3) := by decide +kernel
theorem dX1_fullSlots_28 : decode cX1_fullSlots 28 = .ok (.goto (-24), 3) := by decide +kernel
theorem dX1_fullSlots_31 : decode cX1_fullSlots 31 = .ok (.iload_n 1, 1) := by decide +kernel
theorem dX1_fullSlots_32 : decode cX1_fullSlots 32 = .ok (.ireturn, 1) := by decide +kernel
theorem dX1_readersWithHead_0 : decode cX1_readersWithHead 0 = .ok (.iconst 0, 1) := by decide +kernel
theorem dX1_readersWithHead_1 : decode cX1_readersWithHead 1 = .ok (.istore_n 1, 1) := by decide +kernel
theorem dX1_readersWithHead_2 : decode cX1_readersWithHead 2 = .ok (.iconst 0, 1) := by decide +kernel
theorem dX1_readersWithHead_3 : decode cX1_readersWithHead 3 = .ok (.istore_n 2, 1) := by decide +kernel
theorem dX1_readersWithHead_4 : decode cX1_readersWithHead 4 = .ok (.iload_n 2, 1) := by decide +kernel
theorem dX1_readersWithHead_5 : decode cX1_readersWithHead 5 = .ok (.bipush 12, 2) := by decide +kernel
theorem dX1_readersWithHead_7 : decode cX1_readersWithHead 7 = .ok (.if_icmp .ge 24, 3) := by decide +kernel
theorem dX1_readersWithHead_10 : decode cX1_readersWithHead 10 = .ok (.aload_n 0, 1) := by decide +kernel
theorem dX1_readersWithHead_11 : decode cX1_readersWithHead 11 = .ok (.getfield 25, 3) := by decide +kernel
theorem dX1_readersWithHead_14 : decode cX1_readersWithHead 14 = .ok (.iload_n 2, 1) := by decide +kernel
theorem dX1_readersWithHead_15 : decode cX1_readersWithHead 15 = .ok (.aaload, 1) := by decide +kernel
theorem dX1_readersWithHead_16 : decode cX1_readersWithHead 16 = .ok (.getfield 53, 3) := by decide +kernel
theorem dX1_readersWithHead_19 : decode cX1_readersWithHead 19 = .ok (.ifCond .eq 6, 3) := by decide +kernel
theorem dX1_readersWithHead_22 : decode cX1_readersWithHead 22 = .ok (.iinc 1 1, 3) := by decide +kernel
theorem dX1_readersWithHead_25 : decode cX1_readersWithHead 25 = .ok (.iinc 2 1, 3) := by decide +kernel
theorem dX1_readersWithHead_28 : decode cX1_readersWithHead 28 = .ok (.goto (-24), 3) := by decide +kernel
theorem dX1_readersWithHead_31 : decode cX1_readersWithHead 31 = .ok (.iload_n 1, 1) := by decide +kernel
theorem dX1_readersWithHead_32 : decode cX1_readersWithHead 32 = .ok (.ireturn, 1) := by decide +kernel
theorem dX1_allEntries_0 : decode cX1_allEntries 0 = .ok (.iconst 0, 1) := by decide +kernel
theorem dX1_allEntries_1 : decode cX1_allEntries 1 = .ok (.istore_n 1, 1) := by decide +kernel
theorem dX1_allEntries_2 : decode cX1_allEntries 2 = .ok (.iconst 0, 1) := by decide +kernel
theorem dX1_allEntries_3 : decode cX1_allEntries 3 = .ok (.istore_n 2, 1) := by decide +kernel
theorem dX1_allEntries_4 : decode cX1_allEntries 4 = .ok (.iload_n 2, 1) := by decide +kernel
theorem dX1_allEntries_5 : decode cX1_allEntries 5 = .ok (.aload_n 0, 1) := by decide +kernel
theorem dX1_allEntries_6 : decode cX1_allEntries 6 = .ok (.getfield 48, 3) := by decide +kernel
theorem dX1_allEntries_9 : decode cX1_allEntries 9 = .ok (.if_icmp .ge 27, 3) := by decide +kernel
theorem dX1_allEntries_12 : decode cX1_allEntries 12 = .ok (.aload_n 0, 1) := by decide +kernel
theorem dX1_allEntries_13 : decode cX1_allEntries 13 = .ok (.getfield 11, 3) := by decide +kernel
theorem dX1_allEntries_16 : decode cX1_allEntries 16 = .ok (.iload_n 2, 1) := by decide +kernel
theorem dX1_allEntries_17 : decode cX1_allEntries 17 = .ok (.aaload, 1) := by decide +kernel
theorem dX1_allEntries_18 : decode cX1_allEntries 18 = .ok (.astore_n 3, 1) := by decide +kernel
theorem dX1_allEntries_19 : decode cX1_allEntries 19 = .ok (.aload_n 3, 1) := by decide +kernel
theorem dX1_allEntries_20 : decode cX1_allEntries 20 = .ok (.ifnull 10, 3) := by decide +kernel
theorem dX1_allEntries_23 : decode cX1_allEntries 23 = .ok (.iload_n 1, 1) := by decide +kernel
theorem dX1_allEntries_24 : decode cX1_allEntries 24 = .ok (.aload_n 3, 1) := by decide +kernel
theorem dX1_allEntries_25 : decode cX1_allEntries 25 = .ok (.getfield 68, 3) := by decide +kernel
theorem dX1_allEntries_28 : decode cX1_allEntries 28 = .ok (.iadd, 1) := by decide +kernel
theorem dX1_allEntries_29 : decode cX1_allEntries 29 = .ok (.istore_n 1, 1) := by decide +kernel
theorem dX1_allEntries_30 : decode cX1_allEntries 30 = .ok (.iinc 2 1, 3) := by decide +kernel
theorem dX1_allEntries_33 : decode cX1_allEntries 33 = .ok (.goto (-29), 3) := by decide +kernel
theorem dX1_allEntries_36 : decode cX1_allEntries 36 = .ok (.iload_n 1, 1) := by decide +kernel
theorem dX1_allEntries_37 : decode cX1_allEntries 37 = .ok (.ireturn, 1) := by decide +kernel
theorem dX1_copy_0 : decode cX1_copy 0 = .ok (.aload_n 0, 1) := by decide +kernel
theorem dX1_copy_1 : decode cX1_copy 1 = .ok (.iconst 0, 1) := by decide +kernel
theorem dX1_copy_2 : decode cX1_copy 2 = .ok (.putfield 48, 3) := by decide +kernel
theorem dX1_copy_5 : decode cX1_copy 5 = .ok (.iconst 0, 1) := by decide +kernel
theorem dX1_copy_6 : decode cX1_copy 6 = .ok (.istore_n 2, 1) := by decide +kernel
theorem dX1_copy_7 : decode cX1_copy 7 = .ok (.iload_n 2, 1) := by decide +kernel
theorem dX1_copy_8 : decode cX1_copy 8 = .ok (.aload_n 1, 1) := by decide +kernel
theorem dX1_copy_9 : decode cX1_copy 9 = .ok (.getfield 48, 3) := by decide +kernel
theorem dX1_copy_12 : decode cX1_copy 12 = .ok (.if_icmp .ge 41, 3) := by decide +kernel
theorem dX1_copy_15 : decode cX1_copy 15 = .ok (.aload_n 1, 1) := by decide +kernel
theorem dX1_copy_16 : decode cX1_copy 16 = .ok (.getfield 11, 3) := by decide +kernel
theorem dX1_copy_19 : decode cX1_copy 19 = .ok (.iload_n 2, 1) := by decide +kernel
theorem dX1_copy_20 : decode cX1_copy 20 = .ok (.aaload, 1) := by decide +kernel
theorem dX1_copy_21 : decode cX1_copy 21 = .ok (.astore_n 3, 1) := by decide +kernel
theorem dX1_copy_22 : decode cX1_copy 22 = .ok (.aload_n 0, 1) := by decide +kernel
theorem dX1_copy_23 : decode cX1_copy 23 = .ok (.invokevirtual 71, 3) := by decide +kernel
theorem dX1_copy_26 : decode cX1_copy 26 = .ok (.astore 4, 2) := by decide +kernel
theorem dX1_copy_28 : decode cX1_copy 28 = .ok (.aload_n 3, 1) := by decide +kernel
theorem dX1_copy_29 : decode cX1_copy 29 = .ok (.ifnull 18, 3) := by decide +kernel
theorem dX1_copy_32 : decode cX1_copy 32 = .ok (.aload 4, 2) := by decide +kernel
theorem dX1_copy_34 : decode cX1_copy 34 = .ok (.ifnull 13, 3) := by decide +kernel
theorem dX1_copy_37 : decode cX1_copy 37 = .ok (.aload 4, 2) := by decide +kernel
theorem dX1_copy_39 : decode cX1_copy 39 = .ok (.aload_n 3, 1) := by decide +kernel
theorem dX1_copy_40 : decode cX1_copy 40 = .ok (.aload_n 3, 1) := by decide +kernel
theorem dX1_copy_41 : decode cX1_copy 41 = .ok (.getfield 68, 3) := by decide +kernel
theorem dX1_copy_44 : decode cX1_copy 44 = .ok (.invokevirtual 75, 3) := by decide +kernel
theorem dX1_copy_47 : decode cX1_copy 47 = .ok (.iinc 2 1, 3) := by decide +kernel
theorem dX1_copy_50 : decode cX1_copy 50 = .ok (.goto (-43), 3) := by decide +kernel
theorem dX1_copy_53 : decode cX1_copy 53 = .ok (.aload_n 0, 1) := by decide +kernel
theorem dX1_copy_54 : decode cX1_copy 54 = .ok (.iconst 0, 1) := by decide +kernel
theorem dX1_copy_55 : decode cX1_copy 55 = .ok (.putfield 58, 3) := by decide +kernel
theorem dX1_copy_58 : decode cX1_copy 58 = .ok (.iconst 0, 1) := by decide +kernel
theorem dX1_copy_59 : decode cX1_copy 59 = .ok (.istore_n 2, 1) := by decide +kernel
theorem dX1_copy_60 : decode cX1_copy 60 = .ok (.iload_n 2, 1) := by decide +kernel
theorem dX1_copy_61 : decode cX1_copy 61 = .ok (.aload_n 1, 1) := by decide +kernel
theorem dX1_copy_62 : decode cX1_copy 62 = .ok (.getfield 58, 3) := by decide +kernel
theorem dX1_copy_65 : decode cX1_copy 65 = .ok (.if_icmp .ge 23, 3) := by decide +kernel
theorem dX1_copy_68 : decode cX1_copy 68 = .ok (.aload_n 0, 1) := by decide +kernel
theorem dX1_copy_69 : decode cX1_copy 69 = .ok (.aload_n 1, 1) := by decide +kernel
theorem dX1_copy_70 : decode cX1_copy 70 = .ok (.iload_n 2, 1) := by decide +kernel
theorem dX1_copy_71 : decode cX1_copy 71 = .ok (.invokevirtual 79, 3) := by decide +kernel
theorem dX1_copy_74 : decode cX1_copy 74 = .ok (.aload_n 1, 1) := by decide +kernel
theorem dX1_copy_75 : decode cX1_copy 75 = .ok (.iload_n 2, 1) := by decide +kernel
theorem dX1_copy_76 : decode cX1_copy 76 = .ok (.invokevirtual 83, 3) := by decide +kernel
theorem dX1_copy_79 : decode cX1_copy 79 = .ok (.invokevirtual 86, 3) := by decide +kernel
theorem dX1_copy_82 : decode cX1_copy 82 = .ok (.iinc 2 1, 3) := by decide +kernel
theorem dX1_copy_85 : decode cX1_copy 85 = .ok (.goto (-25), 3) := by decide +kernel
theorem dX1_copy_88 : decode cX1_copy 88 = .ok (.iconst 0, 1) := by decide +kernel
theorem dX1_copy_89 : decode cX1_copy 89 = .ok (.istore_n 2, 1) := by decide +kernel
theorem dX1_copy_90 : decode cX1_copy 90 = .ok (.iload_n 2, 1) := by decide +kernel
theorem dX1_copy_91 : decode cX1_copy 91 = .ok (.bipush 16, 2) := by decide +kernel
theorem dX1_copy_93 : decode cX1_copy 93 = .ok (.if_icmp .ge 24, 3) := by decide +kernel
theorem dX1_copy_96 : decode cX1_copy 96 = .ok (.aload_n 0, 1) := by decide +kernel
theorem dX1_copy_97 : decode cX1_copy 97 = .ok (.getfield 19, 3) := by decide +kernel
theorem dX1_copy_100 : decode cX1_copy 100 = .ok (.iload_n 2, 1) := by decide +kernel
theorem dX1_copy_101 : decode cX1_copy 101 = .ok (.aaload, 1) := by decide +kernel
theorem dX1_copy_102 : decode cX1_copy 102 = .ok (.aload_n 1, 1) := by decide +kernel
theorem dX1_copy_103 : decode cX1_copy 103 = .ok (.getfield 19, 3) := by decide +kernel
theorem dX1_copy_106 : decode cX1_copy 106 = .ok (.iload_n 2, 1) := by decide +kernel
theorem dX1_copy_107 : decode cX1_copy 107 = .ok (.aaload, 1) := by decide +kernel
theorem dX1_copy_108 : decode cX1_copy 108 = .ok (.invokevirtual 90, 3) := by decide +kernel
theorem dX1_copy_111 : decode cX1_copy 111 = .ok (.iinc 2 1, 3) := by decide +kernel
theorem dX1_copy_114 : decode cX1_copy 114 = .ok (.goto (-24), 3) := by decide +kernel
theorem dX1_copy_117 : decode cX1_copy 117 = .ok (.iconst 0, 1) := by decide +kernel
theorem dX1_copy_118 : decode cX1_copy 118 = .ok (.istore_n 2, 1) := by decide +kernel
theorem dX1_copy_119 : decode cX1_copy 119 = .ok (.iload_n 2, 1) := by decide +kernel
theorem dX1_copy_120 : decode cX1_copy 120 = .ok (.bipush 12, 2) := by decide +kernel
theorem dX1_copy_122 : decode cX1_copy 122 = .ok (.if_icmp .ge 36, 3) := by decide +kernel
theorem dX1_copy_125 : decode cX1_copy 125 = .ok (.aload_n 0, 1) := by decide +kernel
theorem dX1_copy_126 : decode cX1_copy 126 = .ok (.getfield 25, 3) := by decide +kernel
theorem dX1_copy_129 : decode cX1_copy 129 = .ok (.iload_n 2, 1) := by decide +kernel
theorem dX1_copy_130 : decode cX1_copy 130 = .ok (.aaload, 1) := by decide +kernel
theorem dX1_copy_131 : decode cX1_copy 131 = .ok (.aload_n 1, 1) := by decide +kernel
theorem dX1_copy_132 : decode cX1_copy 132 = .ok (.getfield 25, 3) := by decide +kernel
theorem dX1_copy_135 : decode cX1_copy 135 = .ok (.iload_n 2, 1) := by decide +kernel
theorem dX1_copy_136 : decode cX1_copy 136 = .ok (.aaload, 1) := by decide +kernel
theorem dX1_copy_137 : decode cX1_copy 137 = .ok (.invokevirtual 61, 3) := by decide +kernel
theorem dX1_copy_140 : decode cX1_copy 140 = .ok (.aload_n 0, 1) := by decide +kernel
theorem dX1_copy_141 : decode cX1_copy 141 = .ok (.getfield 29, 3) := by decide +kernel
theorem dX1_copy_144 : decode cX1_copy 144 = .ok (.iload_n 2, 1) := by decide +kernel
theorem dX1_copy_145 : decode cX1_copy 145 = .ok (.aload_n 1, 1) := by decide +kernel
theorem dX1_copy_146 : decode cX1_copy 146 = .ok (.getfield 29, 3) := by decide +kernel
theorem dX1_copy_149 : decode cX1_copy 149 = .ok (.iload_n 2, 1) := by decide +kernel
theorem dX1_copy_150 : decode cX1_copy 150 = .ok (.iaload, 1) := by decide +kernel
theorem dX1_copy_151 : decode cX1_copy 151 = .ok (.iastore, 1) := by decide +kernel
theorem dX1_copy_152 : decode cX1_copy 152 = .ok (.iinc 2 1, 3) := by decide +kernel
theorem dX1_copy_155 : decode cX1_copy 155 = .ok (.goto (-36), 3) := by decide +kernel
theorem dX1_copy_158 : decode cX1_copy 158 = .ok (.iconst 0, 1) := by decide +kernel
theorem dX1_copy_159 : decode cX1_copy 159 = .ok (.istore_n 2, 1) := by decide +kernel
theorem dX1_copy_160 : decode cX1_copy 160 = .ok (.iload_n 2, 1) := by decide +kernel
theorem dX1_copy_161 : decode cX1_copy 161 = .ok (.bipush 8, 2) := by decide +kernel
theorem dX1_copy_163 : decode cX1_copy 163 = .ok (.if_icmp .ge 24, 3) := by decide +kernel
theorem dX1_copy_166 : decode cX1_copy 166 = .ok (.aload_n 0, 1) := by decide +kernel
theorem dX1_copy_167 : decode cX1_copy 167 = .ok (.getfield 41, 3) := by decide +kernel
theorem dX1_copy_170 : decode cX1_copy 170 = .ok (.iload_n 2, 1) := by decide +kernel
theorem dX1_copy_171 : decode cX1_copy 171 = .ok (.aaload, 1) := by decide +kernel
theorem dX1_copy_172 : decode cX1_copy 172 = .ok (.aload_n 1, 1) := by decide +kernel
theorem dX1_copy_173 : decode cX1_copy 173 = .ok (.getfield 41, 3) := by decide +kernel
theorem dX1_copy_176 : decode cX1_copy 176 = .ok (.iload_n 2, 1) := by decide +kernel
theorem dX1_copy_177 : decode cX1_copy 177 = .ok (.aaload, 1) := by decide +kernel
theorem dX1_copy_178 : decode cX1_copy 178 = .ok (.invokevirtual 93, 3) := by decide +kernel
theorem dX1_copy_181 : decode cX1_copy 181 = .ok (.iinc 2 1, 3) := by decide +kernel
theorem dX1_copy_184 : decode cX1_copy 184 = .ok (.goto (-24), 3) := by decide +kernel
theorem dX1_copy_187 : decode cX1_copy 187 = .ok (.return_, 1) := by decide +kernel
theorem dX8_init_0 : decode cX8_init 0 = .ok (.aload_n 0, 1) := by decide +kernel
theorem dX8_init_1 : decode cX8_init 1 = .ok (.invokespecial 3, 3) := by decide +kernel
theorem dX8_init_4 : decode cX8_init 4 = .ok (.aload_n 0, 1) := by decide +kernel
theorem dX8_init_5 : decode cX8_init 5 = .ok (.bipush 8, 2) := by decide +kernel
theorem dX8_init_7 : decode cX8_init 7 = .ok (.newarray .int, 2) := by decide +kernel
theorem dX8_init_9 : decode cX8_init 9 = .ok (.putfield 9, 3) := by decide +kernel
theorem dX8_init_12 : decode cX8_init 12 = .ok (.aload_n 0, 1) := by decide +kernel
theorem dX8_init_13 : decode cX8_init 13 = .ok (.bipush 8, 2) := by decide +kernel
theorem dX8_init_15 : decode cX8_init 15 = .ok (.newarray .int, 2) := by decide +kernel
theorem dX8_init_17 : decode cX8_init 17 = .ok (.putfield 15, 3) := by decide +kernel
theorem dX8_init_20 : decode cX8_init 20 = .ok (.aload_n 0, 1) := by decide +kernel
theorem dX8_init_21 : decode cX8_init 21 = .ok (.aload_n 1, 1) := by decide +kernel
theorem dX8_init_22 : decode cX8_init 22 = .ok (.putfield 18, 3) := by decide +kernel
theorem dX8_init_25 : decode cX8_init 25 = .ok (.aload_n 0, 1) := by decide +kernel
theorem dX8_init_26 : decode cX8_init 26 = .ok (.aload_n 2, 1) := by decide +kernel
theorem dX8_init_27 : decode cX8_init 27 = .ok (.putfield 22, 3) := by decide +kernel
theorem dX8_init_30 : decode cX8_init 30 = .ok (.aload_n 0, 1) := by decide +kernel
theorem dX8_init_31 : decode cX8_init 31 = .ok (.new 26, 3) := by decide +kernel
theorem dX8_init_34 : decode cX8_init 34 = .ok (.dup, 1) := by decide +kernel
theorem dX8_init_35 : decode cX8_init 35 = .ok (.aload_n 1, 1) := by decide +kernel
theorem dX8_init_36 : decode cX8_init 36 = .ok (.invokespecial 28, 3) := by decide +kernel
theorem dX8_init_39 : decode cX8_init 39 = .ok (.putfield 31, 3) := by decide +kernel
theorem dX8_init_42 : decode cX8_init 42 = .ok (.return_, 1) := by decide +kernel
theorem dX8_topOf_0 : decode cX8_topOf 0 = .ok (.aload_n 0, 1) := by decide +kernel
theorem dX8_topOf_1 : decode cX8_topOf 1 = .ok (.getfield 31, 3) := by decide +kernel
theorem dX8_topOf_4 : decode cX8_topOf 4 = .ok (.invokevirtual 35, 3) := by decide +kernel
theorem dX8_topOf_7 : decode cX8_topOf 7 = .ok (.aload_n 1, 1) := by decide +kernel
theorem dX8_topOf_8 : decode cX8_topOf 8 = .ok (.aload_n 0, 1) := by decide +kernel
theorem dX8_topOf_9 : decode cX8_topOf 9 = .ok (.getfield 31, 3) := by decide +kernel
theorem dX8_topOf_12 : decode cX8_topOf 12 = .ok (.iload_n 2, 1) := by decide +kernel
theorem dX8_topOf_13 : decode cX8_topOf 13 = .ok (.invokevirtual 38, 3) := by decide +kernel
theorem dX8_topOf_16 : decode cX8_topOf 16 = .ok (.aload_n 0, 1) := by decide +kernel
theorem dX8_topOf_17 : decode cX8_topOf 17 = .ok (.getfield 31, 3) := by decide +kernel
theorem dX8_topOf_20 : decode cX8_topOf 20 = .ok (.aload_n 3, 1) := by decide +kernel
theorem dX8_topOf_21 : decode cX8_topOf 21 = .ok (.invokevirtual 44, 3) := by decide +kernel
theorem dX8_topOf_24 : decode cX8_topOf 24 = .ok (.return_, 1) := by decide +kernel
theorem dX8_treeOf_0 : decode cX8_treeOf 0 = .ok (.aload_n 1, 1) := by decide +kernel
theorem dX8_treeOf_1 : decode cX8_treeOf 1 = .ok (.getfield 48, 3) := by decide +kernel
theorem dX8_treeOf_4 : decode cX8_treeOf 4 = .ok (.iload_n 2, 1) := by decide +kernel
theorem dX8_treeOf_5 : decode cX8_treeOf 5 = .ok (.if_icmp .eq 32, 3) := by decide +kernel
theorem dX8_treeOf_8 : decode cX8_treeOf 8 = .ok (.aload_n 0, 1) := by decide +kernel
theorem dX8_treeOf_9 : decode cX8_treeOf 9 = .ok (.getfield 22, 3) := by decide +kernel
theorem dX8_treeOf_12 : decode cX8_treeOf 12 = .ok (.aload_n 1, 1) := by decide +kernel
theorem dX8_treeOf_13 : decode cX8_treeOf 13 = .ok (.iload_n 2, 1) := by decide +kernel
theorem dX8_treeOf_14 : decode cX8_treeOf 14 = .ok (.invokevirtual 52, 3) := by decide +kernel
theorem dX8_treeOf_17 : decode cX8_treeOf 17 = .ok (.aload_n 0, 1) := by decide +kernel
theorem dX8_treeOf_18 : decode cX8_treeOf 18 = .ok (.getfield 22, 3) := by decide +kernel
theorem dX8_treeOf_21 : decode cX8_treeOf 21 = .ok (.aload_n 1, 1) := by decide +kernel
theorem dX8_treeOf_22 : decode cX8_treeOf 22 = .ok (.getfield 58, 3) := by decide +kernel
theorem dX8_treeOf_25 : decode cX8_treeOf 25 = .ok (.aload_n 1, 1) := by decide +kernel
theorem dX8_treeOf_26 : decode cX8_treeOf 26 = .ok (.getfield 62, 3) := by decide +kernel
theorem dX8_treeOf_29 : decode cX8_treeOf 29 = .ok (.invokevirtual 65, 3) := by decide +kernel
theorem dX8_treeOf_32 : decode cX8_treeOf 32 = .ok (.aload_n 1, 1) := by decide +kernel
theorem dX8_treeOf_33 : decode cX8_treeOf 33 = .ok (.iload_n 2, 1) := by decide +kernel
theorem dX8_treeOf_34 : decode cX8_treeOf 34 = .ok (.putfield 48, 3) := by decide +kernel
theorem dX8_treeOf_37 : decode cX8_treeOf 37 = .ok (.aload_n 1, 1) := by decide +kernel
theorem dX8_treeOf_38 : decode cX8_treeOf 38 = .ok (.getfield 62, 3) := by decide +kernel
theorem dX8_treeOf_41 : decode cX8_treeOf 41 = .ok (.iconst 0, 1) := by decide +kernel
theorem dX8_treeOf_42 : decode cX8_treeOf 42 = .ok (.aload_n 3, 1) := by decide +kernel
theorem dX8_treeOf_43 : decode cX8_treeOf 43 = .ok (.iconst 0, 1) := by decide +kernel
theorem dX8_treeOf_44 : decode cX8_treeOf 44 = .ok (.invokestatic 69, 3) := by decide +kernel
theorem dX8_treeOf_47 : decode cX8_treeOf 47 = .ok (.return_, 1) := by decide +kernel
theorem dX8_makeHead_0 : decode cX8_makeHead 0 = .ok (.aload 4, 2) := by decide +kernel
theorem dX8_makeHead_2 : decode cX8_makeHead 2 = .ok (.iconst 1, 1) := by decide +kernel
theorem dX8_makeHead_3 : decode cX8_makeHead 3 = .ok (.putfield 73, 3) := by decide +kernel
theorem dX8_makeHead_6 : decode cX8_makeHead 6 = .ok (.aload 4, 2) := by decide +kernel
theorem dX8_makeHead_8 : decode cX8_makeHead 8 = .ok (.iload_n 3, 1) := by decide +kernel
theorem dX8_makeHead_9 : decode cX8_makeHead 9 = .ok (.putfield 79, 3) := by decide +kernel
theorem dX8_makeHead_12 : decode cX8_makeHead 12 = .ok (.aload 4, 2) := by decide +kernel
theorem dX8_makeHead_14 : decode cX8_makeHead 14 = .ok (.iload_n 2, 1) := by decide +kernel
theorem dX8_makeHead_15 : decode cX8_makeHead 15 = .ok (.putfield 82, 3) := by decide +kernel
theorem dX8_makeHead_18 : decode cX8_makeHead 18 = .ok (.aload 4, 2) := by decide +kernel
theorem dX8_makeHead_20 : decode cX8_makeHead 20 = .ok (.aload_n 1, 1) := by decide +kernel
theorem dX8_makeHead_21 : decode cX8_makeHead 21 = .ok (.getfield 85, 3) := by decide +kernel
theorem dX8_makeHead_24 : decode cX8_makeHead 24 = .ok (.putfield 88, 3) := by decide +kernel
theorem dX8_makeHead_27 : decode cX8_makeHead 27 = .ok (.aload_n 0, 1) := by decide +kernel
theorem dX8_makeHead_28 : decode cX8_makeHead 28 = .ok (.aload_n 1, 1) := by decide +kernel
theorem dX8_makeHead_29 : decode cX8_makeHead 29 = .ok (.iload_n 3, 1) := by decide +kernel
theorem dX8_makeHead_30 : decode cX8_makeHead 30 = .ok (.aload 4, 2) := by decide +kernel
theorem dX8_makeHead_32 : decode cX8_makeHead 32 = .ok (.getfield 89, 3) := by decide +kernel
theorem dX8_makeHead_35 : decode cX8_makeHead 35 = .ok (.invokevirtual 92, 3) := by decide +kernel
theorem dX8_makeHead_38 : decode cX8_makeHead 38 = .ok (.aload_n 0, 1) := by decide +kernel
theorem dX8_makeHead_39 : decode cX8_makeHead 39 = .ok (.aload_n 1, 1) := by decide +kernel
theorem dX8_makeHead_40 : decode cX8_makeHead 40 = .ok (.iload_n 3, 1) := by decide +kernel
theorem dX8_makeHead_41 : decode cX8_makeHead 41 = .ok (.aload 4, 2) := by decide +kernel
theorem dX8_makeHead_43 : decode cX8_makeHead 43 = .ok (.getfield 96, 3) := by decide +kernel
theorem dX8_makeHead_46 : decode cX8_makeHead 46 = .ok (.invokevirtual 97, 3) := by decide +kernel
theorem dX8_makeHead_49 : decode cX8_makeHead 49 = .ok (.aload_n 0, 1) := by decide +kernel
theorem dX8_makeHead_50 : decode cX8_makeHead 50 = .ok (.getfield 18, 3) := by decide +kernel
theorem dX8_makeHead_53 : decode cX8_makeHead 53 = .ok (.aload 4, 2) := by decide +kernel
theorem dX8_makeHead_55 : decode cX8_makeHead 55 = .ok (.aload 4, 2) := by decide +kernel
theorem dX8_makeHead_57 : decode cX8_makeHead 57 = .ok (.getfield 100, 3) := by decide +kernel
theorem dX8_makeHead_60 : decode cX8_makeHead 60 = .ok (.invokevirtual 103, 3) := by decide +kernel
theorem dX8_makeHead_63 : decode cX8_makeHead 63 = .ok (.return_, 1) := by decide +kernel
theorem dX8_isMarked_0 : decode cX8_isMarked 0 = .ok (.aload_n 0, 1) := by decide +kernel
theorem dX8_isMarked_1 : decode cX8_isMarked 1 = .ok (.getfield 18, 3) := by decide +kernel
theorem dX8_isMarked_4 : decode cX8_isMarked 4 = .ok (.aload_n 1, 1) := by decide +kernel
theorem dX8_isMarked_5 : decode cX8_isMarked 5 = .ok (.aload_n 0, 1) := by decide +kernel
theorem dX8_isMarked_6 : decode cX8_isMarked 6 = .ok (.getfield 9, 3) := by decide +kernel
theorem dX8_isMarked_9 : decode cX8_isMarked 9 = .ok (.invokevirtual 103, 3) := by decide +kernel
theorem dX8_isMarked_12 : decode cX8_isMarked 12 = .ok (.aload_n 0, 1) := by decide +kernel
theorem dX8_isMarked_13 : decode cX8_isMarked 13 = .ok (.getfield 9, 3) := by decide +kernel
theorem dX8_isMarked_16 : decode cX8_isMarked 16 = .ok (.aload_n 1, 1) := by decide +kernel
theorem dX8_isMarked_17 : decode cX8_isMarked 17 = .ok (.getfield 100, 3) := by decide +kernel
theorem dX8_isMarked_20 : decode cX8_isMarked 20 = .ok (.invokestatic 109, 3) := by decide +kernel
theorem dX8_isMarked_23 : decode cX8_isMarked 23 = .ok (.ireturn, 1) := by decide +kernel
theorem dX8_isGrowth_0 : decode cX8_isGrowth 0 = .ok (.aload_n 2, 1) := by decide +kernel
theorem dX8_isGrowth_1 : decode cX8_isGrowth 1 = .ok (.getfield 79, 3) := by decide +kernel
theorem dX8_isGrowth_4 : decode cX8_isGrowth 4 = .ok (.aload_n 1, 1) := by decide +kernel
theorem dX8_isGrowth_5 : decode cX8_isGrowth 5 = .ok (.getfield 113, 3) := by decide +kernel
theorem dX8_isGrowth_8 : decode cX8_isGrowth 8 = .ok (.if_icmp .ne 14, 3) := by decide +kernel
theorem dX8_isGrowth_11 : decode cX8_isGrowth 11 = .ok (.aload_n 3, 1) := by decide +kernel
theorem dX8_isGrowth_12 : decode cX8_isGrowth 12 = .ok (.getfield 79, 3) := by decide +kernel
theorem dX8_isGrowth_15 : decode cX8_isGrowth 15 = .ok (.aload_n 1, 1) := by decide +kernel
theorem dX8_isGrowth_16 : decode cX8_isGrowth 16 = .ok (.getfield 118, 3) := by decide +kernel
theorem dX8_isGrowth_19 : decode cX8_isGrowth 19 = .ok (.if_icmp .eq 5, 3) := by decide +kernel
theorem dX8_isGrowth_22 : decode cX8_isGrowth 22 = .ok (.iconst 0, 1) := by decide +kernel
theorem dX8_isGrowth_23 : decode cX8_isGrowth 23 = .ok (.ireturn, 1) := by decide +kernel
theorem dX8_isGrowth_24 : decode cX8_isGrowth 24 = .ok (.aload_n 0, 1) := by decide +kernel
theorem dX8_isGrowth_25 : decode cX8_isGrowth 25 = .ok (.getfield 31, 3) := by decide +kernel
theorem dX8_isGrowth_28 : decode cX8_isGrowth 28 = .ok (.invokevirtual 35, 3) := by decide +kernel
theorem dX8_isGrowth_31 : decode cX8_isGrowth 31 = .ok (.aload_n 0, 1) := by decide +kernel
theorem dX8_isGrowth_32 : decode cX8_isGrowth 32 = .ok (.aload_n 1, 1) := by decide +kernel
theorem dX8_isGrowth_33 : decode cX8_isGrowth 33 = .ok (.iconst 0, 1) := by decide +kernel
theorem dX8_isGrowth_34 : decode cX8_isGrowth 34 = .ok (.iconst 0, 1) := by decide +kernel
theorem dX8_isGrowth_35 : decode cX8_isGrowth 35 = .ok (.aload_n 1, 1) := by decide +kernel
theorem dX8_isGrowth_36 : decode cX8_isGrowth 36 = .ok (.getfield 113, 3) := by decide +kernel
theorem dX8_isGrowth_39 : decode cX8_isGrowth 39 = .ok (.invokevirtual 119, 3) := by decide +kernel
theorem dX8_isGrowth_42 : decode cX8_isGrowth 42 = .ok (.istore 4, 2) := by decide +kernel
theorem dX8_isGrowth_44 : decode cX8_isGrowth 44 = .ok (.aload_n 0, 1) := by decide +kernel
theorem dX8_isGrowth_45 : decode cX8_isGrowth 45 = .ok (.getfield 31, 3) := by decide +kernel
theorem dX8_isGrowth_48 : decode cX8_isGrowth 48 = .ok (.aload_n 0, 1) := by decide +kernel
theorem dX8_isGrowth_49 : decode cX8_isGrowth 49 = .ok (.getfield 9, 3) := by decide +kernel
theorem dX8_isGrowth_52 : decode cX8_isGrowth 52 = .ok (.invokevirtual 44, 3) := by decide +kernel
theorem dX8_isGrowth_55 : decode cX8_isGrowth 55 = .ok (.aload_n 0, 1) := by decide +kernel
theorem dX8_isGrowth_56 : decode cX8_isGrowth 56 = .ok (.getfield 9, 3) := by decide +kernel
theorem dX8_isGrowth_59 : decode cX8_isGrowth 59 = .ok (.aload_n 2, 1) := by decide +kernel
theorem dX8_isGrowth_60 : decode cX8_isGrowth 60 = .ok (.getfield 89, 3) := by decide +kernel
theorem dX8_isGrowth_63 : decode cX8_isGrowth 63 = .ok (.invokestatic 109, 3) := by decide +kernel
theorem dX8_isGrowth_66 : decode cX8_isGrowth 66 = .ok (.ifCond .ne 5, 3) := by decide +kernel
theorem dX8_isGrowth_69 : decode cX8_isGrowth 69 = .ok (.iconst 0, 1) := by decide +kernel
theorem dX8_isGrowth_70 : decode cX8_isGrowth 70 = .ok (.ireturn, 1) := by decide +kernel
theorem dX8_isGrowth_71 : decode cX8_isGrowth 71 = .ok (.aload_n 0, 1) := by decide +kernel
theorem dX8_isGrowth_72 : decode cX8_isGrowth 72 = .ok (.aload_n 1, 1) := by decide +kernel
theorem dX8_isGrowth_73 : decode cX8_isGrowth 73 = .ok (.iload 4, 2) := by decide +kernel
theorem dX8_isGrowth_75 : decode cX8_isGrowth 75 = .ok (.aload_n 1, 1) := by decide +kernel
theorem dX8_isGrowth_76 : decode cX8_isGrowth 76 = .ok (.getfield 113, 3) := by decide +kernel
theorem dX8_isGrowth_79 : decode cX8_isGrowth 79 = .ok (.aload_n 1, 1) := by decide +kernel
theorem dX8_isGrowth_80 : decode cX8_isGrowth 80 = .ok (.getfield 118, 3) := by decide +kernel
theorem dX8_isGrowth_83 : decode cX8_isGrowth 83 = .ok (.invokevirtual 119, 3) := by decide +kernel
theorem dX8_isGrowth_86 : decode cX8_isGrowth 86 = .ok (.pop, 1) := by decide +kernel
theorem dX8_isGrowth_87 : decode cX8_isGrowth 87 = .ok (.aload_n 0, 1) := by decide +kernel
theorem dX8_isGrowth_88 : decode cX8_isGrowth 88 = .ok (.getfield 31, 3) := by decide +kernel
theorem dX8_isGrowth_91 : decode cX8_isGrowth 91 = .ok (.aload_n 0, 1) := by decide +kernel
theorem dX8_isGrowth_92 : decode cX8_isGrowth 92 = .ok (.getfield 9, 3) := by decide +kernel
theorem dX8_isGrowth_95 : decode cX8_isGrowth 95 = .ok (.invokevirtual 44, 3) := by decide +kernel
theorem dX8_isGrowth_98 : decode cX8_isGrowth 98 = .ok (.aload_n 0, 1) := by decide +kernel
theorem dX8_isGrowth_99 : decode cX8_isGrowth 99 = .ok (.getfield 9, 3) := by decide +kernel
theorem dX8_isGrowth_102 : decode cX8_isGrowth 102 = .ok (.aload_n 3, 1) := by decide +kernel
theorem dX8_isGrowth_103 : decode cX8_isGrowth 103 = .ok (.getfield 89, 3) := by decide +kernel
theorem dX8_isGrowth_106 : decode cX8_isGrowth 106 = .ok (.invokestatic 109, 3) := by decide +kernel
theorem dX8_isGrowth_109 : decode cX8_isGrowth 109 = .ok (.ireturn, 1) := by decide +kernel
theorem dX8_isRight_0 : decode cX8_isRight 0 = .ok (.aload_n 2, 1) := by decide +kernel
theorem dX8_isRight_1 : decode cX8_isRight 1 = .ok (.getfield 79, 3) := by decide +kernel
theorem dX8_isRight_4 : decode cX8_isRight 4 = .ok (.aload_n 1, 1) := by decide +kernel
theorem dX8_isRight_5 : decode cX8_isRight 5 = .ok (.getfield 118, 3) := by decide +kernel
theorem dX8_isRight_8 : decode cX8_isRight 8 = .ok (.if_icmp .eq 5, 3) := by decide +kernel
theorem dX8_isRight_11 : decode cX8_isRight 11 = .ok (.iconst 0, 1) := by decide +kernel
theorem dX8_isRight_12 : decode cX8_isRight 12 = .ok (.ireturn, 1) := by decide +kernel
theorem dX8_isRight_13 : decode cX8_isRight 13 = .ok (.aload_n 1, 1) := by decide +kernel
theorem dX8_isRight_14 : decode cX8_isRight 14 = .ok (.getfield 122, 3) := by decide +kernel
theorem dX8_isRight_17 : decode cX8_isRight 17 = .ok (.tableswitch 101 1 5 #[35, 101, 42, 53, 35], 35) := by decide +kernel
theorem dX8_isRight_52 : decode cX8_isRight 52 = .ok (.aload_n 0, 1) := by decide +kernel
theorem dX8_isRight_53 : decode cX8_isRight 53 = .ok (.aload_n 1, 1) := by decide +kernel
theorem dX8_isRight_54 : decode cX8_isRight 54 = .ok (.aload_n 2, 1) := by decide +kernel
theorem dX8_isRight_55 : decode cX8_isRight 55 = .ok (.invokevirtual 125, 3) := by decide +kernel
theorem dX8_isRight_58 : decode cX8_isRight 58 = .ok (.ireturn, 1) := by decide +kernel
theorem dX8_isRight_59 : decode cX8_isRight 59 = .ok (.aload_n 0, 1) := by decide +kernel
theorem dX8_isRight_60 : decode cX8_isRight 60 = .ok (.aload_n 1, 1) := by decide +kernel
theorem dX8_isRight_61 : decode cX8_isRight 61 = .ok (.aload_n 1, 1) := by decide +kernel
theorem dX8_isRight_62 : decode cX8_isRight 62 = .ok (.getfield 129, 3) := by decide +kernel
theorem dX8_isRight_65 : decode cX8_isRight 65 = .ok (.aload_n 2, 1) := by decide +kernel
theorem dX8_isRight_66 : decode cX8_isRight 66 = .ok (.invokevirtual 132, 3) := by decide +kernel
theorem dX8_isRight_69 : decode cX8_isRight 69 = .ok (.ireturn, 1) := by decide +kernel
theorem dX8_isRight_70 : decode cX8_isRight 70 = .ok (.aload_n 1, 1) := by decide +kernel
theorem dX8_isRight_71 : decode cX8_isRight 71 = .ok (.getfield 136, 3) := by decide +kernel
theorem dX8_isRight_74 : decode cX8_isRight 74 = .ok (.iconst (-1), 1) := by decide +kernel
theorem dX8_isRight_75 : decode cX8_isRight 75 = .ok (.if_icmp .eq 18, 3) := by decide +kernel
theorem dX8_isRight_78 : decode cX8_isRight 78 = .ok (.aload_n 1, 1) := by decide +kernel
theorem dX8_isRight_79 : decode cX8_isRight 79 = .ok (.getfield 139, 3) := by decide +kernel
theorem dX8_isRight_82 : decode cX8_isRight 82 = .ok (.aload_n 1, 1) := by decide +kernel
theorem dX8_isRight_83 : decode cX8_isRight 83 = .ok (.getfield 129, 3) := by decide +kernel
theorem dX8_isRight_86 : decode cX8_isRight 86 = .ok (.if_icmp .ne 7, 3) := by decide +kernel
theorem dX8_isRight_89 : decode cX8_isRight 89 = .ok (.iconst 1, 1) := by decide +kernel
theorem dX8_isRight_90 : decode cX8_isRight 90 = .ok (.goto 4, 3) := by decide +kernel
theorem dX8_isRight_93 : decode cX8_isRight 93 = .ok (.iconst 0, 1) := by decide +kernel
theorem dX8_isRight_94 : decode cX8_isRight 94 = .ok (.istore_n 3, 1) := by decide +kernel
theorem dX8_isRight_95 : decode cX8_isRight 95 = .ok (.iload_n 3, 1) := by decide +kernel
theorem dX8_isRight_96 : decode cX8_isRight 96 = .ok (.ifCond .ne 20, 3) := by decide +kernel
theorem dX8_isRight_99 : decode cX8_isRight 99 = .ok (.aload_n 0, 1) := by decide +kernel
theorem dX8_isRight_100 : decode cX8_isRight 100 = .ok (.aload_n 1, 1) := by decide +kernel
theorem dX8_isRight_101 : decode cX8_isRight 101 = .ok (.aload_n 1, 1) := by decide +kernel
theorem dX8_isRight_102 : decode cX8_isRight 102 = .ok (.getfield 139, 3) := by decide +kernel
theorem dX8_isRight_105 : decode cX8_isRight 105 = .ok (.aload_n 2, 1) := by decide +kernel
theorem dX8_isRight_106 : decode cX8_isRight 106 = .ok (.invokevirtual 132, 3) := by decide +kernel
theorem dX8_isRight_109 : decode cX8_isRight 109 = .ok (.ifCond .eq 7, 3) := by decide +kernel
theorem dX8_isRight_112 : decode cX8_isRight 112 = .ok (.iconst 1, 1) := by decide +kernel
theorem dX8_isRight_113 : decode cX8_isRight 113 = .ok (.goto 4, 3) := by decide +kernel
theorem dX8_isRight_116 : decode cX8_isRight 116 = .ok (.iconst 0, 1) := by decide +kernel
theorem dX8_isRight_117 : decode cX8_isRight 117 = .ok (.ireturn, 1) := by decide +kernel
theorem dX8_isRight_118 : decode cX8_isRight 118 = .ok (.iconst 0, 1) := by decide +kernel
theorem dX8_isRight_119 : decode cX8_isRight 119 = .ok (.ireturn, 1) := by decide +kernel
theorem dX8_hasEntries_0 : decode cX8_hasEntries 0 = .ok (.aload_n 0, 1) := by decide +kernel
theorem dX8_hasEntries_1 : decode cX8_hasEntries 1 = .ok (.getfield 31, 3) := by decide +kernel
theorem dX8_hasEntries_4 : decode cX8_hasEntries 4 = .ok (.invokevirtual 35, 3) := by decide +kernel
theorem dX8_hasEntries_7 : decode cX8_hasEntries 7 = .ok (.aload_n 0, 1) := by decide +kernel
theorem dX8_hasEntries_8 : decode cX8_hasEntries 8 = .ok (.aload_n 1, 1) := by decide +kernel
theorem dX8_hasEntries_9 : decode cX8_hasEntries 9 = .ok (.iconst 0, 1) := by decide +kernel
theorem dX8_hasEntries_10 : decode cX8_hasEntries 10 = .ok (.iconst 0, 1) := by decide +kernel
theorem dX8_hasEntries_11 : decode cX8_hasEntries 11 = .ok (.aload_n 1, 1) := by decide +kernel
theorem dX8_hasEntries_12 : decode cX8_hasEntries 12 = .ok (.getfield 113, 3) := by decide +kernel
theorem dX8_hasEntries_15 : decode cX8_hasEntries 15 = .ok (.invokevirtual 119, 3) := by decide +kernel
theorem dX8_hasEntries_18 : decode cX8_hasEntries 18 = .ok (.istore_n 3, 1) := by decide +kernel
theorem dX8_hasEntries_19 : decode cX8_hasEntries 19 = .ok (.iconst 0, 1) := by decide +kernel
theorem dX8_hasEntries_20 : decode cX8_hasEntries 20 = .ok (.istore 4, 2) := by decide +kernel
theorem dX8_hasEntries_22 : decode cX8_hasEntries 22 = .ok (.iload 4, 2) := by decide +kernel
theorem dX8_hasEntries_24 : decode cX8_hasEntries 24 = .ok (.aload_n 1, 1) := by decide +kernel
theorem dX8_hasEntries_25 : decode cX8_hasEntries 25 = .ok (.getfield 142, 3) := by decide +kernel
theorem dX8_hasEntries_28 : decode cX8_hasEntries 28 = .ok (.if_icmp .ge 55, 3) := by decide +kernel
theorem dX8_hasEntries_31 : decode cX8_hasEntries 31 = .ok (.aload_n 0, 1) := by decide +kernel
theorem dX8_hasEntries_32 : decode cX8_hasEntries 32 = .ok (.getfield 18, 3) := by decide +kernel
theorem dX8_hasEntries_35 : decode cX8_hasEntries 35 = .ok (.aload_n 1, 1) := by decide +kernel
theorem dX8_hasEntries_36 : decode cX8_hasEntries 36 = .ok (.getfield 145, 3) := by decide +kernel
theorem dX8_hasEntries_39 : decode cX8_hasEntries 39 = .ok (.iload 4, 2) := by decide +kernel
theorem dX8_hasEntries_41 : decode cX8_hasEntries 41 = .ok (.iaload, 1) := by decide +kernel
theorem dX8_hasEntries_42 : decode cX8_hasEntries 42 = .ok (.aload_n 1, 1) := by decide +kernel
theorem dX8_hasEntries_43 : decode cX8_hasEntries 43 = .ok (.getfield 148, 3) := by decide +kernel
theorem dX8_hasEntries_46 : decode cX8_hasEntries 46 = .ok (.iload 4, 2) := by decide +kernel
theorem dX8_hasEntries_48 : decode cX8_hasEntries 48 = .ok (.laload, 1) := by decide +kernel
theorem dX8_hasEntries_49 : decode cX8_hasEntries 49 = .ok (.aload_n 0, 1) := by decide +kernel
theorem dX8_hasEntries_50 : decode cX8_hasEntries 50 = .ok (.getfield 9, 3) := by decide +kernel
theorem dX8_hasEntries_53 : decode cX8_hasEntries 53 = .ok (.iconst 0, 1) := by decide +kernel
theorem dX8_hasEntries_54 : decode cX8_hasEntries 54 = .ok (.invokevirtual 152, 3) := by decide +kernel
theorem dX8_hasEntries_57 : decode cX8_hasEntries 57 = .ok (.aload_n 0, 1) := by decide +kernel
theorem dX8_hasEntries_58 : decode cX8_hasEntries 58 = .ok (.getfield 31, 3) := by decide +kernel
theorem dX8_hasEntries_61 : decode cX8_hasEntries 61 = .ok (.aload_n 1, 1) := by decide +kernel
theorem dX8_hasEntries_62 : decode cX8_hasEntries 62 = .ok (.getfield 113, 3) := by decide +kernel
theorem dX8_hasEntries_65 : decode cX8_hasEntries 65 = .ok (.iload 4, 2) := by decide +kernel
theorem dX8_hasEntries_67 : decode cX8_hasEntries 67 = .ok (.iadd, 1) := by decide +kernel
theorem dX8_hasEntries_68 : decode cX8_hasEntries 68 = .ok (.iconst 1, 1) := by decide +kernel
theorem dX8_hasEntries_69 : decode cX8_hasEntries 69 = .ok (.aload_n 0, 1) := by decide +kernel
theorem dX8_hasEntries_70 : decode cX8_hasEntries 70 = .ok (.getfield 9, 3) := by decide +kernel
theorem dX8_hasEntries_73 : decode cX8_hasEntries 73 = .ok (.iconst 0, 1) := by decide +kernel
theorem dX8_hasEntries_74 : decode cX8_hasEntries 74 = .ok (.invokevirtual 156, 3) := by decide +kernel
theorem dX8_hasEntries_77 : decode cX8_hasEntries 77 = .ok (.iinc 4 1, 3) := by decide +kernel
theorem dX8_hasEntries_80 : decode cX8_hasEntries 80 = .ok (.goto (-58), 3) := by decide +kernel
theorem dX8_hasEntries_83 : decode cX8_hasEntries 83 = .ok (.aload_n 0, 1) := by decide +kernel
theorem dX8_hasEntries_84 : decode cX8_hasEntries 84 = .ok (.aload_n 1, 1) := by decide +kernel
theorem dX8_hasEntries_85 : decode cX8_hasEntries 85 = .ok (.iload_n 3, 1) := by decide +kernel
theorem dX8_hasEntries_86 : decode cX8_hasEntries 86 = .ok (.aload_n 1, 1) := by decide +kernel
theorem dX8_hasEntries_87 : decode cX8_hasEntries 87 = .ok (.getfield 113, 3) := by decide +kernel
theorem dX8_hasEntries_90 : decode cX8_hasEntries 90 = .ok (.aload_n 1, 1) := by decide +kernel
theorem dX8_hasEntries_91 : decode cX8_hasEntries 91 = .ok (.getfield 142, 3) := by decide +kernel
theorem dX8_hasEntries_94 : decode cX8_hasEntries 94 = .ok (.iadd, 1) := by decide +kernel
theorem dX8_hasEntries_95 : decode cX8_hasEntries 95 = .ok (.aload_n 1, 1) := by decide +kernel
theorem dX8_hasEntries_96 : decode cX8_hasEntries 96 = .ok (.getfield 118, 3) := by decide +kernel
theorem dX8_hasEntries_99 : decode cX8_hasEntries 99 = .ok (.invokevirtual 119, 3) := by decide +kernel
theorem dX8_hasEntries_102 : decode cX8_hasEntries 102 = .ok (.pop, 1) := by decide +kernel
theorem dX8_hasEntries_103 : decode cX8_hasEntries 103 = .ok (.aload_n 0, 1) := by decide +kernel
theorem dX8_hasEntries_104 : decode cX8_hasEntries 104 = .ok (.getfield 31, 3) := by decide +kernel
theorem dX8_hasEntries_107 : decode cX8_hasEntries 107 = .ok (.aload_n 0, 1) := by decide +kernel
theorem dX8_hasEntries_108 : decode cX8_hasEntries 108 = .ok (.getfield 9, 3) := by decide +kernel
theorem dX8_hasEntries_111 : decode cX8_hasEntries 111 = .ok (.invokevirtual 44, 3) := by decide +kernel
theorem dX8_hasEntries_114 : decode cX8_hasEntries 114 = .ok (.aload_n 0, 1) := by decide +kernel
theorem dX8_hasEntries_115 : decode cX8_hasEntries 115 = .ok (.getfield 9, 3) := by decide +kernel
theorem dX8_hasEntries_118 : decode cX8_hasEntries 118 = .ok (.aload_n 2, 1) := by decide +kernel
theorem dX8_hasEntries_119 : decode cX8_hasEntries 119 = .ok (.getfield 89, 3) := by decide +kernel
theorem dX8_hasEntries_122 : decode cX8_hasEntries 122 = .ok (.invokestatic 109, 3) := by decide +kernel
theorem dX8_hasEntries_125 : decode cX8_hasEntries 125 = .ok (.ireturn, 1) := by decide +kernel
theorem dX8_climb_0 : decode cX8_climb 0 = .ok (.iload_n 2, 1) := by decide +kernel
theorem dX8_climb_1 : decode cX8_climb 1 = .ok (.istore 5, 2) := by decide +kernel
theorem dX8_climb_3 : decode cX8_climb 3 = .ok (.iconst 0, 1) := by decide +kernel
theorem dX8_climb_4 : decode cX8_climb 4 = .ok (.istore 6, 2) := by decide +kernel
theorem dX8_climb_6 : decode cX8_climb 6 = .ok (.iload_n 3, 1) := by decide +kernel
theorem dX8_climb_7 : decode cX8_climb 7 = .ok (.istore 7, 2) := by decide +kernel
theorem dX8_climb_9 : decode cX8_climb 9 = .ok (.iload 7, 2) := by decide +kernel
theorem dX8_climb_11 : decode cX8_climb 11 = .ok (.iload 4, 2) := by decide +kernel
theorem dX8_climb_13 : decode cX8_climb 13 = .ok (.if_icmp .ge 55, 3) := by decide +kernel
theorem dX8_climb_16 : decode cX8_climb 16 = .ok (.iload 5, 2) := by decide +kernel
theorem dX8_climb_18 : decode cX8_climb 18 = .ok (.aload_n 1, 1) := by decide +kernel
theorem dX8_climb_19 : decode cX8_climb 19 = .ok (.getfield 160, 3) := by decide +kernel
theorem dX8_climb_22 : decode cX8_climb 22 = .ok (.if_icmp .ge 46, 3) := by decide +kernel
theorem dX8_climb_25 : decode cX8_climb 25 = .ok (.iload 7, 2) := by decide +kernel
theorem dX8_climb_27 : decode cX8_climb 27 = .ok (.iload 4, 2) := by decide +kernel
theorem dX8_climb_29 : decode cX8_climb 29 = .ok (.invokestatic 163, 3) := by decide +kernel
theorem dX8_climb_32 : decode cX8_climb 32 = .ok (.istore 6, 2) := by decide +kernel
theorem dX8_climb_34 : decode cX8_climb 34 = .ok (.aload_n 0, 1) := by decide +kernel
theorem dX8_climb_35 : decode cX8_climb 35 = .ok (.getfield 31, 3) := by decide +kernel
theorem dX8_climb_38 : decode cX8_climb 38 = .ok (.iload 7, 2) := by decide +kernel
theorem dX8_climb_40 : decode cX8_climb 40 = .ok (.iconst 1, 1) := by decide +kernel
theorem dX8_climb_41 : decode cX8_climb 41 = .ok (.iload 6, 2) := by decide +kernel
theorem dX8_climb_43 : decode cX8_climb 43 = .ok (.ishl, 1) := by decide +kernel
theorem dX8_climb_44 : decode cX8_climb 44 = .ok (.aload_n 1, 1) := by decide +kernel
theorem dX8_climb_45 : decode cX8_climb 45 = .ok (.getfield 167, 3) := by decide +kernel
theorem dX8_climb_48 : decode cX8_climb 48 = .ok (.iload 5, 2) := by decide +kernel
theorem dX8_climb_50 : decode cX8_climb 50 = .ok (.invokevirtual 156, 3) := by decide +kernel
theorem dX8_climb_53 : decode cX8_climb 53 = .ok (.iinc 5 1, 3) := by decide +kernel
theorem dX8_climb_56 : decode cX8_climb 56 = .ok (.iload 7, 2) := by decide +kernel
theorem dX8_climb_58 : decode cX8_climb 58 = .ok (.iconst 1, 1) := by decide +kernel
theorem dX8_climb_59 : decode cX8_climb 59 = .ok (.iload 6, 2) := by decide +kernel
theorem dX8_climb_61 : decode cX8_climb 61 = .ok (.ishl, 1) := by decide +kernel
theorem dX8_climb_62 : decode cX8_climb 62 = .ok (.iadd, 1) := by decide +kernel
theorem dX8_climb_63 : decode cX8_climb 63 = .ok (.istore 7, 2) := by decide +kernel
theorem dX8_climb_65 : decode cX8_climb 65 = .ok (.goto (-56), 3) := by decide +kernel
theorem dX8_climb_68 : decode cX8_climb 68 = .ok (.iload 5, 2) := by decide +kernel
theorem dX8_climb_70 : decode cX8_climb 70 = .ok (.ireturn, 1) := by decide +kernel
theorem dX8_leadsTo_0 : decode cX8_leadsTo 0 = .ok (.aload_n 1, 1) := by decide +kernel
theorem dX8_leadsTo_1 : decode cX8_leadsTo 1 = .ok (.getfield 136, 3) := by decide +kernel
theorem dX8_leadsTo_4 : decode cX8_leadsTo 4 = .ok (.iconst (-1), 1) := by decide +kernel
theorem dX8_leadsTo_5 : decode cX8_leadsTo 5 = .ok (.if_icmp .ne 14, 3) := by decide +kernel
theorem dX8_leadsTo_8 : decode cX8_leadsTo 8 = .ok (.aload_n 0, 1) := by decide +kernel
theorem dX8_leadsTo_9 : decode cX8_leadsTo 9 = .ok (.getfield 9, 3) := by decide +kernel
theorem dX8_leadsTo_12 : decode cX8_leadsTo 12 = .ok (.iconst 0, 1) := by decide +kernel
theorem dX8_leadsTo_13 : decode cX8_leadsTo 13 = .ok (.invokestatic 170, 3) := by decide +kernel
theorem dX8_leadsTo_16 : decode cX8_leadsTo 16 = .ok (.goto 20, 3) := by decide +kernel
theorem dX8_leadsTo_19 : decode cX8_leadsTo 19 = .ok (.aload_n 0, 1) := by decide +kernel
theorem dX8_leadsTo_20 : decode cX8_leadsTo 20 = .ok (.getfield 18, 3) := by decide +kernel
theorem dX8_leadsTo_23 : decode cX8_leadsTo 23 = .ok (.iload_n 2, 1) := by decide +kernel
theorem dX8_leadsTo_24 : decode cX8_leadsTo 24 = .ok (.aload_n 1, 1) := by decide +kernel
theorem dX8_leadsTo_25 : decode cX8_leadsTo 25 = .ok (.getfield 136, 3) := by decide +kernel
theorem dX8_leadsTo_28 : decode cX8_leadsTo 28 = .ok (.aload_n 0, 1) := by decide +kernel
theorem dX8_leadsTo_29 : decode cX8_leadsTo 29 = .ok (.getfield 9, 3) := by decide +kernel
theorem dX8_leadsTo_32 : decode cX8_leadsTo 32 = .ok (.iconst 0, 1) := by decide +kernel
theorem dX8_leadsTo_33 : decode cX8_leadsTo 33 = .ok (.invokevirtual 174, 3) := by decide +kernel
theorem dX8_leadsTo_36 : decode cX8_leadsTo 36 = .ok (.aload_n 0, 1) := by decide +kernel
theorem dX8_leadsTo_37 : decode cX8_leadsTo 37 = .ok (.getfield 18, 3) := by decide +kernel
theorem dX8_leadsTo_40 : decode cX8_leadsTo 40 = .ok (.aload_n 1, 1) := by decide +kernel
theorem dX8_leadsTo_41 : decode cX8_leadsTo 41 = .ok (.getfield 129, 3) := by decide +kernel
theorem dX8_leadsTo_44 : decode cX8_leadsTo 44 = .ok (.aload_n 0, 1) := by decide +kernel
theorem dX8_leadsTo_45 : decode cX8_leadsTo 45 = .ok (.getfield 15, 3) := by decide +kernel
theorem dX8_leadsTo_48 : decode cX8_leadsTo 48 = .ok (.iconst 0, 1) := by decide +kernel
theorem dX8_leadsTo_49 : decode cX8_leadsTo 49 = .ok (.invokevirtual 177, 3) := by decide +kernel
theorem dX8_leadsTo_52 : decode cX8_leadsTo 52 = .ok (.aload_n 1, 1) := by decide +kernel
theorem dX8_leadsTo_53 : decode cX8_leadsTo 53 = .ok (.getfield 160, 3) := by decide +kernel
theorem dX8_leadsTo_56 : decode cX8_leadsTo 56 = .ok (.iconst 1, 1) := by decide +kernel
theorem dX8_leadsTo_57 : decode cX8_leadsTo 57 = .ok (.isub, 1) := by decide +kernel
theorem dX8_leadsTo_58 : decode cX8_leadsTo 58 = .ok (.istore 4, 2) := by decide +kernel
theorem dX8_leadsTo_60 : decode cX8_leadsTo 60 = .ok (.iload 4, 2) := by decide +kernel
theorem dX8_leadsTo_62 : decode cX8_leadsTo 62 = .ok (.ifCond .lt 71, 3) := by decide +kernel
theorem dX8_leadsTo_65 : decode cX8_leadsTo 65 = .ok (.aload_n 0, 1) := by decide +kernel
theorem dX8_leadsTo_66 : decode cX8_leadsTo 66 = .ok (.getfield 15, 3) := by decide +kernel
theorem dX8_leadsTo_69 : decode cX8_leadsTo 69 = .ok (.iconst 0, 1) := by decide +kernel
theorem dX8_leadsTo_70 : decode cX8_leadsTo 70 = .ok (.iload 4, 2) := by decide +kernel
theorem dX8_leadsTo_72 : decode cX8_leadsTo 72 = .ok (.invokestatic 181, 3) := by decide +kernel
theorem dX8_leadsTo_75 : decode cX8_leadsTo 75 = .ok (.ifCond .ne 29, 3) := by decide +kernel
theorem dX8_leadsTo_78 : decode cX8_leadsTo 78 = .ok (.aload_n 0, 1) := by decide +kernel
theorem dX8_leadsTo_79 : decode cX8_leadsTo 79 = .ok (.getfield 18, 3) := by decide +kernel
theorem dX8_leadsTo_82 : decode cX8_leadsTo 82 = .ok (.aload_n 0, 1) := by decide +kernel
theorem dX8_leadsTo_83 : decode cX8_leadsTo 83 = .ok (.getfield 9, 3) := by decide +kernel
theorem dX8_leadsTo_86 : decode cX8_leadsTo 86 = .ok (.iconst 0, 1) := by decide +kernel
theorem dX8_leadsTo_87 : decode cX8_leadsTo 87 = .ok (.aload_n 1, 1) := by decide +kernel
theorem dX8_leadsTo_88 : decode cX8_leadsTo 88 = .ok (.getfield 167, 3) := by decide +kernel
theorem dX8_leadsTo_91 : decode cX8_leadsTo 91 = .ok (.iload 4, 2) := by decide +kernel
theorem dX8_leadsTo_93 : decode cX8_leadsTo 93 = .ok (.aload_n 0, 1) := by decide +kernel
theorem dX8_leadsTo_94 : decode cX8_leadsTo 94 = .ok (.getfield 9, 3) := by decide +kernel
theorem dX8_leadsTo_97 : decode cX8_leadsTo 97 = .ok (.iconst 0, 1) := by decide +kernel
theorem dX8_leadsTo_98 : decode cX8_leadsTo 98 = .ok (.invokevirtual 185, 3) := by decide +kernel
theorem dX8_leadsTo_101 : decode cX8_leadsTo 101 = .ok (.goto 26, 3) := by decide +kernel
theorem dX8_leadsTo_104 : decode cX8_leadsTo 104 = .ok (.aload_n 0, 1) := by decide +kernel
theorem dX8_leadsTo_105 : decode cX8_leadsTo 105 = .ok (.getfield 18, 3) := by decide +kernel
theorem dX8_leadsTo_108 : decode cX8_leadsTo 108 = .ok (.aload_n 1, 1) := by decide +kernel
theorem dX8_leadsTo_109 : decode cX8_leadsTo 109 = .ok (.getfield 167, 3) := by decide +kernel
theorem dX8_leadsTo_112 : decode cX8_leadsTo 112 = .ok (.iload 4, 2) := by decide +kernel
theorem dX8_leadsTo_114 : decode cX8_leadsTo 114 = .ok (.aload_n 0, 1) := by decide +kernel
theorem dX8_leadsTo_115 : decode cX8_leadsTo 115 = .ok (.getfield 9, 3) := by decide +kernel
theorem dX8_leadsTo_118 : decode cX8_leadsTo 118 = .ok (.iconst 0, 1) := by decide +kernel
theorem dX8_leadsTo_119 : decode cX8_leadsTo 119 = .ok (.aload_n 0, 1) := by decide +kernel
theorem dX8_leadsTo_120 : decode cX8_leadsTo 120 = .ok (.getfield 9, 3) := by decide +kernel
theorem dX8_leadsTo_123 : decode cX8_leadsTo 123 = .ok (.iconst 0, 1) := by decide +kernel
theorem dX8_leadsTo_124 : decode cX8_leadsTo 124 = .ok (.invokevirtual 185, 3) := by decide +kernel
theorem dX8_leadsTo_127 : decode cX8_leadsTo 127 = .ok (.iinc 4 (-1), 3) := by decide +kernel
theorem dX8_leadsTo_130 : decode cX8_leadsTo 130 = .ok (.goto (-70), 3) := by decide +kernel
theorem dX8_leadsTo_133 : decode cX8_leadsTo 133 = .ok (.aload_n 0, 1) := by decide +kernel
theorem dX8_leadsTo_134 : decode cX8_leadsTo 134 = .ok (.getfield 9, 3) := by decide +kernel
theorem dX8_leadsTo_137 : decode cX8_leadsTo 137 = .ok (.aload_n 3, 1) := by decide +kernel
theorem dX8_leadsTo_138 : decode cX8_leadsTo 138 = .ok (.getfield 96, 3) := by decide +kernel
theorem dX8_leadsTo_141 : decode cX8_leadsTo 141 = .ok (.invokestatic 109, 3) := by decide +kernel
theorem dX8_leadsTo_144 : decode cX8_leadsTo 144 = .ok (.ireturn, 1) := by decide +kernel
theorem dX10_init_0 : decode cX10_init 0 = .ok (.aload_n 0, 1) := by decide +kernel
theorem dX10_init_1 : decode cX10_init 1 = .ok (.invokespecial 3, 3) := by decide +kernel
theorem dX10_init_4 : decode cX10_init 4 = .ok (.aload_n 0, 1) := by decide +kernel
theorem dX10_init_5 : decode cX10_init 5 = .ok (.sipush 400, 3) := by decide +kernel
theorem dX10_init_8 : decode cX10_init 8 = .ok (.newarray .int, 2) := by decide +kernel
theorem dX10_init_10 : decode cX10_init 10 = .ok (.putfield 9, 3) := by decide +kernel
theorem dX10_init_13 : decode cX10_init 13 = .ok (.return_, 1) := by decide +kernel
theorem dX10_begin_0 : decode cX10_begin 0 = .ok (.aload_n 0, 1) := by decide +kernel
theorem dX10_begin_1 : decode cX10_begin 1 = .ok (.iconst 1, 1) := by decide +kernel
theorem dX10_begin_2 : decode cX10_begin 2 = .ok (.putfield 15, 3) := by decide +kernel
theorem dX10_begin_5 : decode cX10_begin 5 = .ok (.aload_n 0, 1) := by decide +kernel
theorem dX10_begin_6 : decode cX10_begin 6 = .ok (.iload_n 1, 1) := by decide +kernel
theorem dX10_begin_7 : decode cX10_begin 7 = .ok (.putfield 19, 3) := by decide +kernel
theorem dX10_begin_10 : decode cX10_begin 10 = .ok (.aload_n 0, 1) := by decide +kernel
theorem dX10_begin_11 : decode cX10_begin 11 = .ok (.iload_n 2, 1) := by decide +kernel
theorem dX10_begin_12 : decode cX10_begin 12 = .ok (.putfield 23, 3) := by decide +kernel
theorem dX10_begin_15 : decode cX10_begin 15 = .ok (.aload_n 0, 1) := by decide +kernel
theorem dX10_begin_16 : decode cX10_begin 16 = .ok (.iload_n 3, 1) := by decide +kernel
theorem dX10_begin_17 : decode cX10_begin 17 = .ok (.putfield 26, 3) := by decide +kernel
theorem dX10_begin_20 : decode cX10_begin 20 = .ok (.aload_n 0, 1) := by decide +kernel
theorem dX10_begin_21 : decode cX10_begin 21 = .ok (.iconst 0, 1) := by decide +kernel
theorem dX10_begin_22 : decode cX10_begin 22 = .ok (.putfield 29, 3) := by decide +kernel
theorem dX10_begin_25 : decode cX10_begin 25 = .ok (.aload_n 0, 1) := by decide +kernel
theorem dX10_begin_26 : decode cX10_begin 26 = .ok (.iconst 0, 1) := by decide +kernel
theorem dX10_begin_27 : decode cX10_begin 27 = .ok (.putfield 32, 3) := by decide +kernel
theorem dX10_begin_30 : decode cX10_begin 30 = .ok (.aload_n 0, 1) := by decide +kernel
theorem dX10_begin_31 : decode cX10_begin 31 = .ok (.getfield 9, 3) := by decide +kernel
theorem dX10_begin_34 : decode cX10_begin 34 = .ok (.iconst (-1), 1) := by decide +kernel
theorem dX10_begin_35 : decode cX10_begin 35 = .ok (.invokestatic 35, 3) := by decide +kernel
theorem dX10_begin_38 : decode cX10_begin 38 = .ok (.return_, 1) := by decide +kernel
theorem dX10_readOn_0 : decode cX10_readOn 0 = .ok (.aload_n 0, 1) := by decide +kernel
theorem dX10_readOn_1 : decode cX10_readOn 1 = .ok (.getfield 29, 3) := by decide +kernel
theorem dX10_readOn_4 : decode cX10_readOn 4 = .ok (.aload_n 1, 1) := by decide +kernel
theorem dX10_readOn_5 : decode cX10_readOn 5 = .ok (.getfield 41, 3) := by decide +kernel
theorem dX10_readOn_8 : decode cX10_readOn 8 = .ok (.if_icmp .ge 65, 3) := by decide +kernel
theorem dX10_readOn_11 : decode cX10_readOn 11 = .ok (.aload_n 1, 1) := by decide +kernel
theorem dX10_readOn_12 : decode cX10_readOn 12 = .ok (.aload_n 0, 1) := by decide +kernel
theorem dX10_readOn_13 : decode cX10_readOn 13 = .ok (.getfield 29, 3) := by decide +kernel
theorem dX10_readOn_16 : decode cX10_readOn 16 = .ok (.invokevirtual 46, 3) := by decide +kernel
theorem dX10_readOn_19 : decode cX10_readOn 19 = .ok (.istore_n 2, 1) := by decide +kernel
theorem dX10_readOn_20 : decode cX10_readOn 20 = .ok (.aload_n 1, 1) := by decide +kernel
theorem dX10_readOn_21 : decode cX10_readOn 21 = .ok (.aload_n 0, 1) := by decide +kernel
theorem dX10_readOn_22 : decode cX10_readOn 22 = .ok (.getfield 29, 3) := by decide +kernel
theorem dX10_readOn_25 : decode cX10_readOn 25 = .ok (.invokevirtual 50, 3) := by decide +kernel
theorem dX10_readOn_28 : decode cX10_readOn 28 = .ok (.ifCond .eq 32, 3) := by decide +kernel
theorem dX10_readOn_31 : decode cX10_readOn 31 = .ok (.iload_n 2, 1) := by decide +kernel
theorem dX10_readOn_32 : decode cX10_readOn 32 = .ok (.aload_n 0, 1) := by decide +kernel
theorem dX10_readOn_33 : decode cX10_readOn 33 = .ok (.getfield 23, 3) := by decide +kernel
theorem dX10_readOn_36 : decode cX10_readOn 36 = .ok (.if_icmp .lt 24, 3) := by decide +kernel
theorem dX10_readOn_39 : decode cX10_readOn 39 = .ok (.iload_n 2, 1) := by decide +kernel
theorem dX10_readOn_40 : decode cX10_readOn 40 = .ok (.aload_n 0, 1) := by decide +kernel
theorem dX10_readOn_41 : decode cX10_readOn 41 = .ok (.getfield 26, 3) := by decide +kernel
theorem dX10_readOn_44 : decode cX10_readOn 44 = .ok (.if_icmp .gt 16, 3) := by decide +kernel
theorem dX10_readOn_47 : decode cX10_readOn 47 = .ok (.aload_n 0, 1) := by decide +kernel
theorem dX10_readOn_48 : decode cX10_readOn 48 = .ok (.aload_n 1, 1) := by decide +kernel
theorem dX10_readOn_49 : decode cX10_readOn 49 = .ok (.getfield 54, 3) := by decide +kernel
theorem dX10_readOn_52 : decode cX10_readOn 52 = .ok (.aload_n 0, 1) := by decide +kernel
theorem dX10_readOn_53 : decode cX10_readOn 53 = .ok (.getfield 29, 3) := by decide +kernel
theorem dX10_readOn_56 : decode cX10_readOn 56 = .ok (.iaload, 1) := by decide +kernel
theorem dX10_readOn_57 : decode cX10_readOn 57 = .ok (.invokevirtual 57, 3) := by decide +kernel
theorem dX10_readOn_60 : decode cX10_readOn 60 = .ok (.aload_n 0, 1) := by decide +kernel
theorem dX10_readOn_61 : decode cX10_readOn 61 = .ok (.dup, 1) := by decide +kernel
theorem dX10_readOn_62 : decode cX10_readOn 62 = .ok (.getfield 29, 3) := by decide +kernel
theorem dX10_readOn_65 : decode cX10_readOn 65 = .ok (.iconst 1, 1) := by decide +kernel
theorem dX10_readOn_66 : decode cX10_readOn 66 = .ok (.iadd, 1) := by decide +kernel
theorem dX10_readOn_67 : decode cX10_readOn 67 = .ok (.putfield 29, 3) := by decide +kernel
theorem dX10_readOn_70 : decode cX10_readOn 70 = .ok (.goto (-70), 3) := by decide +kernel
theorem dX10_readOn_73 : decode cX10_readOn 73 = .ok (.return_, 1) := by decide +kernel
theorem dX10_note_0 : decode cX10_note 0 = .ok (.aload_n 0, 1) := by decide +kernel
theorem dX10_note_1 : decode cX10_note 1 = .ok (.getfield 9, 3) := by decide +kernel
theorem dX10_note_4 : decode cX10_note 4 = .ok (.iload_n 1, 1) := by decide +kernel
theorem dX10_note_5 : decode cX10_note 5 = .ok (.iaload, 1) := by decide +kernel
theorem dX10_note_6 : decode cX10_note 6 = .ok (.iconst (-1), 1) := by decide +kernel
theorem dX10_note_7 : decode cX10_note 7 = .ok (.if_icmp .ne 13, 3) := by decide +kernel
theorem dX10_note_10 : decode cX10_note 10 = .ok (.aload_n 0, 1) := by decide +kernel
theorem dX10_note_11 : decode cX10_note 11 = .ok (.dup, 1) := by decide +kernel
theorem dX10_note_12 : decode cX10_note 12 = .ok (.getfield 32, 3) := by decide +kernel
theorem dX10_note_15 : decode cX10_note 15 = .ok (.iconst 1, 1) := by decide +kernel
theorem dX10_note_16 : decode cX10_note 16 = .ok (.iadd, 1) := by decide +kernel
theorem dX10_note_17 : decode cX10_note 17 = .ok (.putfield 32, 3) := by decide +kernel
theorem dX10_note_20 : decode cX10_note 20 = .ok (.aload_n 0, 1) := by decide +kernel
theorem dX10_note_21 : decode cX10_note 21 = .ok (.getfield 9, 3) := by decide +kernel
theorem dX10_note_24 : decode cX10_note 24 = .ok (.iload_n 1, 1) := by decide +kernel
theorem dX10_note_25 : decode cX10_note 25 = .ok (.aload_n 0, 1) := by decide +kernel
theorem dX10_note_26 : decode cX10_note 26 = .ok (.getfield 29, 3) := by decide +kernel
theorem dX10_note_29 : decode cX10_note 29 = .ok (.iastore, 1) := by decide +kernel
theorem dX10_note_30 : decode cX10_note 30 = .ok (.return_, 1) := by decide +kernel
theorem dX10_unlikeKeys_0 : decode cX10_unlikeKeys 0 = .ok (.iconst 0, 1) := by decide +kernel
theorem dX10_unlikeKeys_1 : decode cX10_unlikeKeys 1 = .ok (.istore_n 3, 1) := by decide +kernel
theorem dX10_unlikeKeys_2 : decode cX10_unlikeKeys 2 = .ok (.iconst 0, 1) := by decide +kernel
theorem dX10_unlikeKeys_3 : decode cX10_unlikeKeys 3 = .ok (.istore 4, 2) := by decide +kernel
theorem dX10_unlikeKeys_5 : decode cX10_unlikeKeys 5 = .ok (.iload 4, 2) := by decide +kernel
theorem dX10_unlikeKeys_7 : decode cX10_unlikeKeys 7 = .ok (.iload_n 2, 1) := by decide +kernel
theorem dX10_unlikeKeys_8 : decode cX10_unlikeKeys 8 = .ok (.if_icmp .ge 39, 3) := by decide +kernel
theorem dX10_unlikeKeys_11 : decode cX10_unlikeKeys 11 = .ok (.aload_n 0, 1) := by decide +kernel
theorem dX10_unlikeKeys_12 : decode cX10_unlikeKeys 12 = .ok (.getfield 9, 3) := by decide +kernel
theorem dX10_unlikeKeys_15 : decode cX10_unlikeKeys 15 = .ok (.iload 4, 2) := by decide +kernel
theorem dX10_unlikeKeys_17 : decode cX10_unlikeKeys 17 = .ok (.iaload, 1) := by decide +kernel
theorem dX10_unlikeKeys_18 : decode cX10_unlikeKeys 18 = .ok (.iconst (-1), 1) := by decide +kernel
theorem dX10_unlikeKeys_19 : decode cX10_unlikeKeys 19 = .ok (.if_icmp .eq 22, 3) := by decide +kernel
theorem dX10_unlikeKeys_22 : decode cX10_unlikeKeys 22 = .ok (.aload_n 0, 1) := by decide +kernel
theorem dX10_unlikeKeys_23 : decode cX10_unlikeKeys 23 = .ok (.getfield 9, 3) := by decide +kernel
theorem dX10_unlikeKeys_26 : decode cX10_unlikeKeys 26 = .ok (.iload 4, 2) := by decide +kernel
theorem dX10_unlikeKeys_28 : decode cX10_unlikeKeys 28 = .ok (.iaload, 1) := by decide +kernel
theorem dX10_unlikeKeys_29 : decode cX10_unlikeKeys 29 = .ok (.aload_n 1, 1) := by decide +kernel
theorem dX10_unlikeKeys_30 : decode cX10_unlikeKeys 30 = .ok (.iload 4, 2) := by decide +kernel
theorem dX10_unlikeKeys_32 : decode cX10_unlikeKeys 32 = .ok (.invokevirtual 61, 3) := by decide +kernel
theorem dX10_unlikeKeys_35 : decode cX10_unlikeKeys 35 = .ok (.if_icmp .eq 6, 3) := by decide +kernel
theorem dX10_unlikeKeys_38 : decode cX10_unlikeKeys 38 = .ok (.iinc 3 1, 3) := by decide +kernel
theorem dX10_unlikeKeys_41 : decode cX10_unlikeKeys 41 = .ok (.iinc 4 1, 3) := by decide +kernel
theorem dX10_unlikeKeys_44 : decode cX10_unlikeKeys 44 = .ok (.goto (-39), 3) := by decide +kernel
theorem dX10_unlikeKeys_47 : decode cX10_unlikeKeys 47 = .ok (.iload_n 3, 1) := by decide +kernel
theorem dX10_unlikeKeys_48 : decode cX10_unlikeKeys 48 = .ok (.ireturn, 1) := by decide +kernel
theorem dX10_copy_0 : decode cX10_copy 0 = .ok (.aload_n 0, 1) := by decide +kernel
theorem dX10_copy_1 : decode cX10_copy 1 = .ok (.aload_n 1, 1) := by decide +kernel
theorem dX10_copy_2 : decode cX10_copy 2 = .ok (.getfield 15, 3) := by decide +kernel
theorem dX10_copy_5 : decode cX10_copy 5 = .ok (.putfield 15, 3) := by decide +kernel
theorem dX10_copy_8 : decode cX10_copy 8 = .ok (.aload_n 0, 1) := by decide +kernel
theorem dX10_copy_9 : decode cX10_copy 9 = .ok (.aload_n 1, 1) := by decide +kernel
theorem dX10_copy_10 : decode cX10_copy 10 = .ok (.getfield 19, 3) := by decide +kernel
theorem dX10_copy_13 : decode cX10_copy 13 = .ok (.putfield 19, 3) := by decide +kernel
theorem dX10_copy_16 : decode cX10_copy 16 = .ok (.aload_n 0, 1) := by decide +kernel
theorem dX10_copy_17 : decode cX10_copy 17 = .ok (.aload_n 1, 1) := by decide +kernel
theorem dX10_copy_18 : decode cX10_copy 18 = .ok (.getfield 23, 3) := by decide +kernel
theorem dX10_copy_21 : decode cX10_copy 21 = .ok (.putfield 23, 3) := by decide +kernel
theorem dX10_copy_24 : decode cX10_copy 24 = .ok (.aload_n 0, 1) := by decide +kernel
theorem dX10_copy_25 : decode cX10_copy 25 = .ok (.aload_n 1, 1) := by decide +kernel
theorem dX10_copy_26 : decode cX10_copy 26 = .ok (.getfield 26, 3) := by decide +kernel
theorem dX10_copy_29 : decode cX10_copy 29 = .ok (.putfield 26, 3) := by decide +kernel
theorem dX10_copy_32 : decode cX10_copy 32 = .ok (.aload_n 0, 1) := by decide +kernel
theorem dX10_copy_33 : decode cX10_copy 33 = .ok (.aload_n 1, 1) := by decide +kernel
theorem dX10_copy_34 : decode cX10_copy 34 = .ok (.getfield 29, 3) := by decide +kernel
theorem dX10_copy_37 : decode cX10_copy 37 = .ok (.putfield 29, 3) := by decide +kernel
theorem dX10_copy_40 : decode cX10_copy 40 = .ok (.aload_n 0, 1) := by decide +kernel
theorem dX10_copy_41 : decode cX10_copy 41 = .ok (.aload_n 1, 1) := by decide +kernel
theorem dX10_copy_42 : decode cX10_copy 42 = .ok (.getfield 32, 3) := by decide +kernel
theorem dX10_copy_45 : decode cX10_copy 45 = .ok (.putfield 32, 3) := by decide +kernel
theorem dX10_copy_48 : decode cX10_copy 48 = .ok (.aload_n 1, 1) := by decide +kernel
theorem dX10_copy_49 : decode cX10_copy 49 = .ok (.getfield 9, 3) := by decide +kernel
theorem dX10_copy_52 : decode cX10_copy 52 = .ok (.iconst 0, 1) := by decide +kernel
theorem dX10_copy_53 : decode cX10_copy 53 = .ok (.aload_n 0, 1) := by decide +kernel
theorem dX10_copy_54 : decode cX10_copy 54 = .ok (.getfield 9, 3) := by decide +kernel
theorem dX10_copy_57 : decode cX10_copy 57 = .ok (.iconst 0, 1) := by decide +kernel
theorem dX10_copy_58 : decode cX10_copy 58 = .ok (.sipush 400, 3) := by decide +kernel
theorem dX10_copy_61 : decode cX10_copy 61 = .ok (.invokestatic 66, 3) := by decide +kernel
theorem dX10_copy_64 : decode cX10_copy 64 = .ok (.return_, 1) := by decide +kernel
theorem dX11_init_0 : decode cX11_init 0 = .ok (.aload_n 0, 1) := by decide +kernel
theorem dX11_init_1 : decode cX11_init 1 = .ok (.invokespecial 3, 3) := by decide +kernel
theorem dX11_init_4 : decode cX11_init 4 = .ok (.aload_n 0, 1) := by decide +kernel
theorem dX11_init_5 : decode cX11_init 5 = .ok (.new 9, 3) := by decide +kernel
theorem dX11_init_8 : decode cX11_init 8 = .ok (.dup, 1) := by decide +kernel
theorem dX11_init_9 : decode cX11_init 9 = .ok (.invokespecial 11, 3) := by decide +kernel
theorem dX11_init_12 : decode cX11_init 12 = .ok (.putfield 12, 3) := by decide +kernel
theorem dX11_init_15 : decode cX11_init 15 = .ok (.aload_n 0, 1) := by decide +kernel
theorem dX11_init_16 : decode cX11_init 16 = .ok (.new 16, 3) := by decide +kernel
theorem dX11_init_19 : decode cX11_init 19 = .ok (.dup, 1) := by decide +kernel
theorem dX11_init_20 : decode cX11_init 20 = .ok (.aload_n 0, 1) := by decide +kernel
theorem dX11_init_21 : decode cX11_init 21 = .ok (.getfield 12, 3) := by decide +kernel
theorem dX11_init_24 : decode cX11_init 24 = .ok (.invokespecial 18, 3) := by decide +kernel
theorem dX11_init_27 : decode cX11_init 27 = .ok (.putfield 21, 3) := by decide +kernel
theorem dX11_init_30 : decode cX11_init 30 = .ok (.aload_n 0, 1) := by decide +kernel
theorem dX11_init_31 : decode cX11_init 31 = .ok (.new 25, 3) := by decide +kernel
theorem dX11_init_34 : decode cX11_init 34 = .ok (.dup, 1) := by decide +kernel
theorem dX11_init_35 : decode cX11_init 35 = .ok (.aload_n 0, 1) := by decide +kernel
theorem dX11_init_36 : decode cX11_init 36 = .ok (.getfield 12, 3) := by decide +kernel
theorem dX11_init_39 : decode cX11_init 39 = .ok (.aload_n 0, 1) := by decide +kernel
theorem dX11_init_40 : decode cX11_init 40 = .ok (.getfield 21, 3) := by decide +kernel
theorem dX11_init_43 : decode cX11_init 43 = .ok (.invokespecial 27, 3) := by decide +kernel
theorem dX11_init_46 : decode cX11_init 46 = .ok (.putfield 30, 3) := by decide +kernel
theorem dX11_init_49 : decode cX11_init 49 = .ok (.aload_n 0, 1) := by decide +kernel
theorem dX11_init_50 : decode cX11_init 50 = .ok (.new 34, 3) := by decide +kernel
theorem dX11_init_53 : decode cX11_init 53 = .ok (.dup, 1) := by decide +kernel
theorem dX11_init_54 : decode cX11_init 54 = .ok (.invokespecial 36, 3) := by decide +kernel
theorem dX11_init_57 : decode cX11_init 57 = .ok (.putfield 37, 3) := by decide +kernel
theorem dX11_init_60 : decode cX11_init 60 = .ok (.aload_n 0, 1) := by decide +kernel
theorem dX11_init_61 : decode cX11_init 61 = .ok (.new 41, 3) := by decide +kernel
theorem dX11_init_64 : decode cX11_init 64 = .ok (.dup, 1) := by decide +kernel
theorem dX11_init_65 : decode cX11_init 65 = .ok (.invokespecial 43, 3) := by decide +kernel
theorem dX11_init_68 : decode cX11_init 68 = .ok (.putfield 44, 3) := by decide +kernel
theorem dX11_init_71 : decode cX11_init 71 = .ok (.aload_n 0, 1) := by decide +kernel
theorem dX11_init_72 : decode cX11_init 72 = .ok (.new 48, 3) := by decide +kernel
theorem dX11_init_75 : decode cX11_init 75 = .ok (.dup, 1) := by decide +kernel
theorem dX11_init_76 : decode cX11_init 76 = .ok (.invokespecial 50, 3) := by decide +kernel
theorem dX11_init_79 : decode cX11_init 79 = .ok (.putfield 51, 3) := by decide +kernel
theorem dX11_init_82 : decode cX11_init 82 = .ok (.return_, 1) := by decide +kernel
theorem dX11_open_0 : decode cX11_open 0 = .ok (.iload_n 1, 1) := by decide +kernel
theorem dX11_open_1 : decode cX11_open 1 = .ok (.ifCond .lt 8, 3) := by decide +kernel
theorem dX11_open_4 : decode cX11_open 4 = .ok (.iload_n 1, 1) := by decide +kernel
theorem dX11_open_5 : decode cX11_open 5 = .ok (.iconst 4, 1) := by decide +kernel
theorem dX11_open_6 : decode cX11_open 6 = .ok (.if_icmp .lt 5, 3) := by decide +kernel
theorem dX11_open_9 : decode cX11_open 9 = .ok (.iconst (-1), 1) := by decide +kernel
theorem dX11_open_10 : decode cX11_open 10 = .ok (.ireturn, 1) := by decide +kernel
theorem dX11_open_11 : decode cX11_open 11 = .ok (.aload_n 0, 1) := by decide +kernel
theorem dX11_open_12 : decode cX11_open 12 = .ok (.getfield 37, 3) := by decide +kernel
theorem dX11_open_15 : decode cX11_open 15 = .ok (.invokevirtual 55, 3) := by decide +kernel
theorem dX11_open_18 : decode cX11_open 18 = .ok (.astore_n 2, 1) := by decide +kernel
theorem dX11_open_19 : decode cX11_open 19 = .ok (.aload_n 2, 1) := by decide +kernel
theorem dX11_open_20 : decode cX11_open 20 = .ok (.ifnonnull 5, 3) := by decide +kernel
theorem dX11_open_23 : decode cX11_open 23 = .ok (.iconst (-1), 1) := by decide +kernel
theorem dX11_open_24 : decode cX11_open 24 = .ok (.ireturn, 1) := by decide +kernel
theorem dX11_open_25 : decode cX11_open 25 = .ok (.aload_n 2, 1) := by decide +kernel
theorem dX11_open_26 : decode cX11_open 26 = .ok (.iload_n 1, 1) := by decide +kernel
theorem dX11_open_27 : decode cX11_open 27 = .ok (.invokevirtual 59, 3) := by decide +kernel
theorem dX11_open_30 : decode cX11_open 30 = .ok (.aload_n 0, 1) := by decide +kernel
theorem dX11_open_31 : decode cX11_open 31 = .ok (.getfield 37, 3) := by decide +kernel
theorem dX11_open_34 : decode cX11_open 34 = .ok (.getfield 65, 3) := by decide +kernel
theorem dX11_open_37 : decode cX11_open 37 = .ok (.iconst 1, 1) := by decide +kernel
theorem dX11_open_38 : decode cX11_open 38 = .ok (.isub, 1) := by decide +kernel
theorem dX11_open_39 : decode cX11_open 39 = .ok (.ireturn, 1) := by decide +kernel
theorem dX11_add_0 : decode cX11_add 0 = .ok (.aload_n 0, 1) := by decide +kernel
theorem dX11_add_1 : decode cX11_add 1 = .ok (.getfield 37, 3) := by decide +kernel
theorem dX11_add_4 : decode cX11_add 4 = .ok (.iload_n 1, 1) := by decide +kernel
theorem dX11_add_5 : decode cX11_add 5 = .ok (.invokevirtual 69, 3) := by decide +kernel
theorem dX11_add_8 : decode cX11_add 8 = .ok (.astore 5, 2) := by decide +kernel
theorem dX11_add_10 : decode cX11_add 10 = .ok (.aload 5, 2) := by decide +kernel
theorem dX11_add_12 : decode cX11_add 12 = .ok (.ifnull 14, 3) := by decide +kernel
theorem dX11_add_15 : decode cX11_add 15 = .ok (.aload 5, 2) := by decide +kernel
theorem dX11_add_17 : decode cX11_add 17 = .ok (.getfield 73, 3) := by decide +kernel
theorem dX11_add_20 : decode cX11_add 20 = .ok (.sipush 400, 3) := by decide +kernel
theorem dX11_add_23 : decode cX11_add 23 = .ok (.if_icmp .lt 5, 3) := by decide +kernel
theorem dX11_add_26 : decode cX11_add 26 = .ok (.iconst (-1), 1) := by decide +kernel
theorem dX11_add_27 : decode cX11_add 27 = .ok (.ireturn, 1) := by decide +kernel
theorem dX11_add_28 : decode cX11_add 28 = .ok (.aload 5, 2) := by decide +kernel
theorem dX11_add_30 : decode cX11_add 30 = .ok (.aload_n 0, 1) := by decide +kernel
theorem dX11_add_31 : decode cX11_add 31 = .ok (.getfield 12, 3) := by decide +kernel
theorem dX11_add_34 : decode cX11_add 34 = .ok (.iload_n 2, 1) := by decide +kernel
theorem dX11_add_35 : decode cX11_add 35 = .ok (.lload_n 3, 1) := by decide +kernel
theorem dX11_add_36 : decode cX11_add 36 = .ok (.invokevirtual 76, 3) := by decide +kernel
theorem dX11_add_39 : decode cX11_add 39 = .ok (.aload 5, 2) := by decide +kernel
theorem dX11_add_41 : decode cX11_add 41 = .ok (.getfield 73, 3) := by decide +kernel
theorem dX11_add_44 : decode cX11_add 44 = .ok (.ireturn, 1) := by decide +kernel
theorem dX11_fork_0 : decode cX11_fork 0 = .ok (.aload_n 0, 1) := by decide +kernel
theorem dX11_fork_1 : decode cX11_fork 1 = .ok (.getfield 37, 3) := by decide +kernel
theorem dX11_fork_4 : decode cX11_fork 4 = .ok (.iload_n 1, 1) := by decide +kernel
theorem dX11_fork_5 : decode cX11_fork 5 = .ok (.invokevirtual 69, 3) := by decide +kernel
theorem dX11_fork_8 : decode cX11_fork 8 = .ok (.astore_n 3, 1) := by decide +kernel
theorem dX11_fork_9 : decode cX11_fork 9 = .ok (.aload_n 3, 1) := by decide +kernel
theorem dX11_fork_10 : decode cX11_fork 10 = .ok (.ifnull 11, 3) := by decide +kernel
theorem dX11_fork_13 : decode cX11_fork 13 = .ok (.aload_n 3, 1) := by decide +kernel
theorem dX11_fork_14 : decode cX11_fork 14 = .ok (.iload_n 2, 1) := by decide +kernel
theorem dX11_fork_15 : decode cX11_fork 15 = .ok (.invokevirtual 80, 3) := by decide +kernel
theorem dX11_fork_18 : decode cX11_fork 18 = .ok (.ifCond .ne 5, 3) := by decide +kernel
theorem dX11_fork_21 : decode cX11_fork 21 = .ok (.iconst (-1), 1) := by decide +kernel
theorem dX11_fork_22 : decode cX11_fork 22 = .ok (.ireturn, 1) := by decide +kernel
theorem dX11_fork_23 : decode cX11_fork 23 = .ok (.aload_n 0, 1) := by decide +kernel
theorem dX11_fork_24 : decode cX11_fork 24 = .ok (.getfield 37, 3) := by decide +kernel
theorem dX11_fork_27 : decode cX11_fork 27 = .ok (.invokevirtual 55, 3) := by decide +kernel
theorem dX11_fork_30 : decode cX11_fork 30 = .ok (.astore 4, 2) := by decide +kernel
theorem dX11_fork_32 : decode cX11_fork 32 = .ok (.aload 4, 2) := by decide +kernel
theorem dX11_fork_34 : decode cX11_fork 34 = .ok (.ifnonnull 5, 3) := by decide +kernel
theorem dX11_fork_37 : decode cX11_fork 37 = .ok (.iconst (-1), 1) := by decide +kernel
theorem dX11_fork_38 : decode cX11_fork 38 = .ok (.ireturn, 1) := by decide +kernel
theorem dX11_fork_39 : decode cX11_fork 39 = .ok (.aload 4, 2) := by decide +kernel
theorem dX11_fork_41 : decode cX11_fork 41 = .ok (.aload_n 3, 1) := by decide +kernel
theorem dX11_fork_42 : decode cX11_fork 42 = .ok (.iload_n 2, 1) := by decide +kernel
theorem dX11_fork_43 : decode cX11_fork 43 = .ok (.invokevirtual 84, 3) := by decide +kernel
theorem dX11_fork_46 : decode cX11_fork 46 = .ok (.aload_n 0, 1) := by decide +kernel
theorem dX11_fork_47 : decode cX11_fork 47 = .ok (.getfield 37, 3) := by decide +kernel
theorem dX11_fork_50 : decode cX11_fork 50 = .ok (.getfield 65, 3) := by decide +kernel
theorem dX11_fork_53 : decode cX11_fork 53 = .ok (.iconst 1, 1) := by decide +kernel
theorem dX11_fork_54 : decode cX11_fork 54 = .ok (.isub, 1) := by decide +kernel
theorem dX11_fork_55 : decode cX11_fork 55 = .ok (.ireturn, 1) := by decide +kernel
theorem dX11_hide_0 : decode cX11_hide 0 = .ok (.aload_n 0, 1) := by decide +kernel
theorem dX11_hide_1 : decode cX11_hide 1 = .ok (.getfield 37, 3) := by decide +kernel
theorem dX11_hide_4 : decode cX11_hide 4 = .ok (.iload_n 1, 1) := by decide +kernel
theorem dX11_hide_5 : decode cX11_hide 5 = .ok (.invokevirtual 69, 3) := by decide +kernel
theorem dX11_hide_8 : decode cX11_hide 8 = .ok (.astore_n 3, 1) := by decide +kernel
theorem dX11_hide_9 : decode cX11_hide 9 = .ok (.aload_n 3, 1) := by decide +kernel
theorem dX11_hide_10 : decode cX11_hide 10 = .ok (.ifnull 16, 3) := by decide +kernel
theorem dX11_hide_13 : decode cX11_hide 13 = .ok (.aload_n 3, 1) := by decide +kernel
theorem dX11_hide_14 : decode cX11_hide 14 = .ok (.iload_n 2, 1) := by decide +kernel
theorem dX11_hide_15 : decode cX11_hide 15 = .ok (.iconst 1, 1) := by decide +kernel
theorem dX11_hide_16 : decode cX11_hide 16 = .ok (.invokevirtual 88, 3) := by decide +kernel
theorem dX11_hide_19 : decode cX11_hide 19 = .ok (.ifCond .eq 7, 3) := by decide +kernel
theorem dX11_hide_22 : decode cX11_hide 22 = .ok (.iconst 1, 1) := by decide +kernel
theorem dX11_hide_23 : decode cX11_hide 23 = .ok (.goto 4, 3) := by decide +kernel
theorem dX11_hide_26 : decode cX11_hide 26 = .ok (.iconst 0, 1) := by decide +kernel
theorem dX11_hide_27 : decode cX11_hide 27 = .ok (.ireturn, 1) := by decide +kernel
theorem dX11_lag_0 : decode cX11_lag 0 = .ok (.aload_n 0, 1) := by decide +kernel
theorem dX11_lag_1 : decode cX11_lag 1 = .ok (.getfield 37, 3) := by decide +kernel
theorem dX11_lag_4 : decode cX11_lag 4 = .ok (.iload_n 1, 1) := by decide +kernel
theorem dX11_lag_5 : decode cX11_lag 5 = .ok (.invokevirtual 69, 3) := by decide +kernel
theorem dX11_lag_8 : decode cX11_lag 8 = .ok (.astore_n 3, 1) := by decide +kernel
theorem dX11_lag_9 : decode cX11_lag 9 = .ok (.aload_n 3, 1) := by decide +kernel
theorem dX11_lag_10 : decode cX11_lag 10 = .ok (.ifnull 16, 3) := by decide +kernel
theorem dX11_lag_13 : decode cX11_lag 13 = .ok (.aload_n 3, 1) := by decide +kernel
theorem dX11_lag_14 : decode cX11_lag 14 = .ok (.iload_n 2, 1) := by decide +kernel
theorem dX11_lag_15 : decode cX11_lag 15 = .ok (.iconst 0, 1) := by decide +kernel
theorem dX11_lag_16 : decode cX11_lag 16 = .ok (.invokevirtual 88, 3) := by decide +kernel
theorem dX11_lag_19 : decode cX11_lag 19 = .ok (.ifCond .eq 7, 3) := by decide +kernel
theorem dX11_lag_22 : decode cX11_lag 22 = .ok (.iconst 1, 1) := by decide +kernel
theorem dX11_lag_23 : decode cX11_lag 23 = .ok (.goto 4, 3) := by decide +kernel
theorem dX11_lag_26 : decode cX11_lag 26 = .ok (.iconst 0, 1) := by decide +kernel
theorem dX11_lag_27 : decode cX11_lag 27 = .ok (.ireturn, 1) := by decide +kernel
theorem dX11_prune_0 : decode cX11_prune 0 = .ok (.aload_n 0, 1) := by decide +kernel
theorem dX11_prune_1 : decode cX11_prune 1 = .ok (.getfield 37, 3) := by decide +kernel
theorem dX11_prune_4 : decode cX11_prune 4 = .ok (.iload_n 1, 1) := by decide +kernel
theorem dX11_prune_5 : decode cX11_prune 5 = .ok (.invokevirtual 69, 3) := by decide +kernel
theorem dX11_prune_8 : decode cX11_prune 8 = .ok (.astore_n 3, 1) := by decide +kernel
theorem dX11_prune_9 : decode cX11_prune 9 = .ok (.aload_n 3, 1) := by decide +kernel
theorem dX11_prune_10 : decode cX11_prune 10 = .ok (.ifnull 11, 3) := by decide +kernel
theorem dX11_prune_13 : decode cX11_prune 13 = .ok (.aload_n 3, 1) := by decide +kernel
theorem dX11_prune_14 : decode cX11_prune 14 = .ok (.iload_n 2, 1) := by decide +kernel
theorem dX11_prune_15 : decode cX11_prune 15 = .ok (.invokevirtual 80, 3) := by decide +kernel
theorem dX11_prune_18 : decode cX11_prune 18 = .ok (.ifCond .ne 5, 3) := by decide +kernel
theorem dX11_prune_21 : decode cX11_prune 21 = .ok (.iconst (-1), 1) := by decide +kernel
theorem dX11_prune_22 : decode cX11_prune 22 = .ok (.ireturn, 1) := by decide +kernel
theorem dX11_prune_23 : decode cX11_prune 23 = .ok (.aload_n 3, 1) := by decide +kernel
theorem dX11_prune_24 : decode cX11_prune 24 = .ok (.iload_n 2, 1) := by decide +kernel
theorem dX11_prune_25 : decode cX11_prune 25 = .ok (.invokevirtual 92, 3) := by decide +kernel
theorem dX11_prune_28 : decode cX11_prune 28 = .ok (.ireturn, 1) := by decide +kernel
theorem dX11_keep_0 : decode cX11_keep 0 = .ok (.aload_n 0, 1) := by decide +kernel
theorem dX11_keep_1 : decode cX11_keep 1 = .ok (.getfield 37, 3) := by decide +kernel
theorem dX11_keep_4 : decode cX11_keep 4 = .ok (.iload_n 1, 1) := by decide +kernel
theorem dX11_keep_5 : decode cX11_keep 5 = .ok (.invokevirtual 69, 3) := by decide +kernel
theorem dX11_keep_8 : decode cX11_keep 8 = .ok (.astore_n 3, 1) := by decide +kernel
theorem dX11_keep_9 : decode cX11_keep 9 = .ok (.aload_n 3, 1) := by decide +kernel
theorem dX11_keep_10 : decode cX11_keep 10 = .ok (.ifnull 11, 3) := by decide +kernel
theorem dX11_keep_13 : decode cX11_keep 13 = .ok (.aload_n 3, 1) := by decide +kernel
theorem dX11_keep_14 : decode cX11_keep 14 = .ok (.iload_n 2, 1) := by decide +kernel
theorem dX11_keep_15 : decode cX11_keep 15 = .ok (.invokevirtual 96, 3) := by decide +kernel
theorem dX11_keep_18 : decode cX11_keep 18 = .ok (.ifCond .ne 5, 3) := by decide +kernel
theorem dX11_keep_21 : decode cX11_keep 21 = .ok (.iconst 0, 1) := by decide +kernel
theorem dX11_keep_22 : decode cX11_keep 22 = .ok (.ireturn, 1) := by decide +kernel
theorem dX11_keep_23 : decode cX11_keep 23 = .ok (.aload_n 3, 1) := by decide +kernel
theorem dX11_keep_24 : decode cX11_keep 24 = .ok (.getfield 99, 3) := by decide +kernel
theorem dX11_keep_27 : decode cX11_keep 27 = .ok (.iload_n 2, 1) := by decide +kernel
theorem dX11_keep_28 : decode cX11_keep 28 = .ok (.iconst 1, 1) := by decide +kernel
theorem dX11_keep_29 : decode cX11_keep 29 = .ok (.iastore, 1) := by decide +kernel
theorem dX11_keep_30 : decode cX11_keep 30 = .ok (.iconst 1, 1) := by decide +kernel
theorem dX11_keep_31 : decode cX11_keep 31 = .ok (.ireturn, 1) := by decide +kernel
theorem dX11_count_0 : decode cX11_count 0 = .ok (.aload_n 0, 1) := by decide +kernel
theorem dX11_count_1 : decode cX11_count 1 = .ok (.getfield 37, 3) := by decide +kernel
theorem dX11_count_4 : decode cX11_count 4 = .ok (.iload_n 1, 1) := by decide +kernel
theorem dX11_count_5 : decode cX11_count 5 = .ok (.invokevirtual 69, 3) := by decide +kernel
theorem dX11_count_8 : decode cX11_count 8 = .ok (.astore_n 3, 1) := by decide +kernel
theorem dX11_count_9 : decode cX11_count 9 = .ok (.aload_n 3, 1) := by decide +kernel
theorem dX11_count_10 : decode cX11_count 10 = .ok (.ifnonnull 5, 3) := by decide +kernel
theorem dX11_count_13 : decode cX11_count 13 = .ok (.iconst (-1), 1) := by decide +kernel
theorem dX11_count_14 : decode cX11_count 14 = .ok (.ireturn, 1) := by decide +kernel
theorem dX11_count_15 : decode cX11_count 15 = .ok (.iload_n 2, 1) := by decide +kernel
theorem dX11_count_16 : decode cX11_count 16 = .ok (.tableswitch 93 0 5 #[40, 45, 50, 55, 75, 84], 40) := by decide +kernel
theorem dX11_count_56 : decode cX11_count 56 = .ok (.aload_n 3, 1) := by decide +kernel
theorem dX11_count_57 : decode cX11_count 57 = .ok (.getfield 73, 3) := by decide +kernel
theorem dX11_count_60 : decode cX11_count 60 = .ok (.ireturn, 1) := by decide +kernel
theorem dX11_count_61 : decode cX11_count 61 = .ok (.aload_n 3, 1) := by decide +kernel
theorem dX11_count_62 : decode cX11_count 62 = .ok (.invokevirtual 103, 3) := by decide +kernel
theorem dX11_count_65 : decode cX11_count 65 = .ok (.ireturn, 1) := by decide +kernel
theorem dX11_count_66 : decode cX11_count 66 = .ok (.aload_n 3, 1) := by decide +kernel
theorem dX11_count_67 : decode cX11_count 67 = .ok (.getfield 107, 3) := by decide +kernel
theorem dX11_count_70 : decode cX11_count 70 = .ok (.ireturn, 1) := by decide +kernel
theorem dX11_count_71 : decode cX11_count 71 = .ok (.aload_n 0, 1) := by decide +kernel
theorem dX11_count_72 : decode cX11_count 72 = .ok (.getfield 21, 3) := by decide +kernel
theorem dX11_count_75 : decode cX11_count 75 = .ok (.aload_n 3, 1) := by decide +kernel
theorem dX11_count_76 : decode cX11_count 76 = .ok (.aload_n 3, 1) := by decide +kernel
theorem dX11_count_77 : decode cX11_count 77 = .ok (.getfield 73, 3) := by decide +kernel
theorem dX11_count_80 : decode cX11_count 80 = .ok (.invokevirtual 110, 3) := by decide +kernel
theorem dX11_count_83 : decode cX11_count 83 = .ok (.aload_n 0, 1) := by decide +kernel
theorem dX11_count_84 : decode cX11_count 84 = .ok (.getfield 21, 3) := by decide +kernel
theorem dX11_count_87 : decode cX11_count 87 = .ok (.getfield 113, 3) := by decide +kernel
theorem dX11_count_90 : decode cX11_count 90 = .ok (.ireturn, 1) := by decide +kernel
theorem dX11_count_91 : decode cX11_count 91 = .ok (.aload_n 3, 1) := by decide +kernel
theorem dX11_count_92 : decode cX11_count 92 = .ok (.getfield 114, 3) := by decide +kernel
theorem dX11_count_95 : decode cX11_count 95 = .ok (.iconst 1, 1) := by decide +kernel
theorem dX11_count_96 : decode cX11_count 96 = .ok (.invokevirtual 118, 3) := by decide +kernel
theorem dX11_count_99 : decode cX11_count 99 = .ok (.ireturn, 1) := by decide +kernel
theorem dX11_count_100 : decode cX11_count 100 = .ok (.aload_n 3, 1) := by decide +kernel
theorem dX11_count_101 : decode cX11_count 101 = .ok (.getfield 114, 3) := by decide +kernel
theorem dX11_count_104 : decode cX11_count 104 = .ok (.iconst 0, 1) := by decide +kernel
theorem dX11_count_105 : decode cX11_count 105 = .ok (.invokevirtual 118, 3) := by decide +kernel
theorem dX11_count_108 : decode cX11_count 108 = .ok (.ireturn, 1) := by decide +kernel
theorem dX11_count_109 : decode cX11_count 109 = .ok (.iconst (-1), 1) := by decide +kernel
theorem dX11_count_110 : decode cX11_count 110 = .ok (.ireturn, 1) := by decide +kernel
theorem dX11_latest_0 : decode cX11_latest 0 = .ok (.aload_n 0, 1) := by decide +kernel
theorem dX11_latest_1 : decode cX11_latest 1 = .ok (.getfield 37, 3) := by decide +kernel
theorem dX11_latest_4 : decode cX11_latest 4 = .ok (.iload_n 1, 1) := by decide +kernel
theorem dX11_latest_5 : decode cX11_latest 5 = .ok (.invokevirtual 69, 3) := by decide +kernel
theorem dX11_latest_8 : decode cX11_latest 8 = .ok (.astore 4, 2) := by decide +kernel
theorem dX11_latest_10 : decode cX11_latest 10 = .ok (.aload 4, 2) := by decide +kernel
theorem dX11_latest_12 : decode cX11_latest 12 = .ok (.ifnull 12, 3) := by decide +kernel
theorem dX11_latest_15 : decode cX11_latest 15 = .ok (.aload 4, 2) := by decide +kernel
theorem dX11_latest_17 : decode cX11_latest 17 = .ok (.iload_n 2, 1) := by decide +kernel
theorem dX11_latest_18 : decode cX11_latest 18 = .ok (.invokevirtual 80, 3) := by decide +kernel
theorem dX11_latest_21 : decode cX11_latest 21 = .ok (.ifCond .ne 5, 3) := by decide +kernel
theorem dX11_latest_24 : decode cX11_latest 24 = .ok (.iconst (-1), 1) := by decide +kernel
theorem dX11_latest_25 : decode cX11_latest 25 = .ok (.ireturn, 1) := by decide +kernel
theorem dX11_latest_26 : decode cX11_latest 26 = .ok (.aload_n 0, 1) := by decide +kernel
theorem dX11_latest_27 : decode cX11_latest 27 = .ok (.getfield 21, 3) := by decide +kernel
theorem dX11_latest_30 : decode cX11_latest 30 = .ok (.aload 4, 2) := by decide +kernel
theorem dX11_latest_32 : decode cX11_latest 32 = .ok (.iload_n 2, 1) := by decide +kernel
theorem dX11_latest_33 : decode cX11_latest 33 = .ok (.invokevirtual 110, 3) := by decide +kernel
theorem dX11_latest_36 : decode cX11_latest 36 = .ok (.aload_n 0, 1) := by decide +kernel
theorem dX11_latest_37 : decode cX11_latest 37 = .ok (.getfield 21, 3) := by decide +kernel
theorem dX11_latest_40 : decode cX11_latest 40 = .ok (.aload 4, 2) := by decide +kernel
theorem dX11_latest_42 : decode cX11_latest 42 = .ok (.getfield 124, 3) := by decide +kernel
theorem dX11_latest_45 : decode cX11_latest 45 = .ok (.iload_n 3, 1) := by decide +kernel
theorem dX11_latest_46 : decode cX11_latest 46 = .ok (.invokevirtual 128, 3) := by decide +kernel
theorem dX11_latest_49 : decode cX11_latest 49 = .ok (.invokevirtual 133, 3) := by decide +kernel
theorem dX11_latest_52 : decode cX11_latest 52 = .ok (.ireturn, 1) := by decide +kernel
theorem dX11_head_0 : decode cX11_head 0 = .ok (.aload_n 0, 1) := by decide +kernel
theorem dX11_head_1 : decode cX11_head 1 = .ok (.getfield 37, 3) := by decide +kernel
theorem dX11_head_4 : decode cX11_head 4 = .ok (.iload_n 1, 1) := by decide +kernel
theorem dX11_head_5 : decode cX11_head 5 = .ok (.invokevirtual 69, 3) := by decide +kernel
theorem dX11_head_8 : decode cX11_head 8 = .ok (.astore 5, 2) := by decide +kernel
theorem dX11_head_10 : decode cX11_head 10 = .ok (.aload 5, 2) := by decide +kernel
theorem dX11_head_12 : decode cX11_head 12 = .ok (.ifnull 20, 3) := by decide +kernel
theorem dX11_head_15 : decode cX11_head 15 = .ok (.aload 5, 2) := by decide +kernel
theorem dX11_head_17 : decode cX11_head 17 = .ok (.iload_n 2, 1) := by decide +kernel
theorem dX11_head_18 : decode cX11_head 18 = .ok (.invokevirtual 80, 3) := by decide +kernel
theorem dX11_head_21 : decode cX11_head 21 = .ok (.ifCond .eq 11, 3) := by decide +kernel
theorem dX11_head_24 : decode cX11_head 24 = .ok (.iload 4, 2) := by decide +kernel
theorem dX11_head_26 : decode cX11_head 26 = .ok (.invokestatic 136, 3) := by decide +kernel
theorem dX11_head_29 : decode cX11_head 29 = .ok (.ifCond .ne 5, 3) := by decide +kernel
theorem dX11_head_32 : decode cX11_head 32 = .ok (.iconst 0, 1) := by decide +kernel
theorem dX11_head_33 : decode cX11_head 33 = .ok (.ireturn, 1) := by decide +kernel
theorem dX11_head_34 : decode cX11_head 34 = .ok (.iload_n 3, 1) := by decide +kernel
theorem dX11_head_35 : decode cX11_head 35 = .ok (.tableswitch 107 0 2 #[25, 53, 81], 25) := by decide +kernel
theorem dX11_head_60 : decode cX11_head 60 = .ok (.aload_n 0, 1) := by decide +kernel
theorem dX11_head_61 : decode cX11_head 61 = .ok (.getfield 30, 3) := by decide +kernel
theorem dX11_head_64 : decode cX11_head 64 = .ok (.aload 5, 2) := by decide +kernel
theorem dX11_head_66 : decode cX11_head 66 = .ok (.iload_n 2, 1) := by decide +kernel
theorem dX11_head_67 : decode cX11_head 67 = .ok (.aload_n 0, 1) := by decide +kernel
theorem dX11_head_68 : decode cX11_head 68 = .ok (.getfield 44, 3) := by decide +kernel
theorem dX11_head_71 : decode cX11_head 71 = .ok (.getfield 139, 3) := by decide +kernel
theorem dX11_head_74 : decode cX11_head 74 = .ok (.invokevirtual 142, 3) := by decide +kernel
theorem dX11_head_77 : decode cX11_head 77 = .ok (.aload_n 0, 1) := by decide +kernel
theorem dX11_head_78 : decode cX11_head 78 = .ok (.getfield 44, 3) := by decide +kernel
theorem dX11_head_81 : decode cX11_head 81 = .ok (.getfield 139, 3) := by decide +kernel
theorem dX11_head_84 : decode cX11_head 84 = .ok (.iload 4, 2) := by decide +kernel
theorem dX11_head_86 : decode cX11_head 86 = .ok (.iaload, 1) := by decide +kernel
theorem dX11_head_87 : decode cX11_head 87 = .ok (.ireturn, 1) := by decide +kernel
theorem dX11_head_88 : decode cX11_head 88 = .ok (.aload_n 0, 1) := by decide +kernel
theorem dX11_head_89 : decode cX11_head 89 = .ok (.getfield 30, 3) := by decide +kernel
theorem dX11_head_92 : decode cX11_head 92 = .ok (.aload 5, 2) := by decide +kernel
theorem dX11_head_94 : decode cX11_head 94 = .ok (.iload_n 2, 1) := by decide +kernel
theorem dX11_head_95 : decode cX11_head 95 = .ok (.aload_n 0, 1) := by decide +kernel
theorem dX11_head_96 : decode cX11_head 96 = .ok (.getfield 44, 3) := by decide +kernel
theorem dX11_head_99 : decode cX11_head 99 = .ok (.getfield 146, 3) := by decide +kernel
theorem dX11_head_102 : decode cX11_head 102 = .ok (.invokevirtual 149, 3) := by decide +kernel
theorem dX11_head_105 : decode cX11_head 105 = .ok (.aload_n 0, 1) := by decide +kernel
theorem dX11_head_106 : decode cX11_head 106 = .ok (.getfield 44, 3) := by decide +kernel
theorem dX11_head_109 : decode cX11_head 109 = .ok (.getfield 146, 3) := by decide +kernel
theorem dX11_head_112 : decode cX11_head 112 = .ok (.iload 4, 2) := by decide +kernel
theorem dX11_head_114 : decode cX11_head 114 = .ok (.iaload, 1) := by decide +kernel
theorem dX11_head_115 : decode cX11_head 115 = .ok (.ireturn, 1) := by decide +kernel
theorem dX11_head_116 : decode cX11_head 116 = .ok (.aload_n 0, 1) := by decide +kernel
theorem dX11_head_117 : decode cX11_head 117 = .ok (.getfield 30, 3) := by decide +kernel
theorem dX11_head_120 : decode cX11_head 120 = .ok (.aload 5, 2) := by decide +kernel
theorem dX11_head_122 : decode cX11_head 122 = .ok (.iload_n 1, 1) := by decide +kernel
theorem dX11_head_123 : decode cX11_head 123 = .ok (.iload_n 2, 1) := by decide +kernel
theorem dX11_head_124 : decode cX11_head 124 = .ok (.aload_n 0, 1) := by decide +kernel
theorem dX11_head_125 : decode cX11_head 125 = .ok (.getfield 44, 3) := by decide +kernel
theorem dX11_head_128 : decode cX11_head 128 = .ok (.invokevirtual 152, 3) := by decide +kernel
theorem dX11_head_131 : decode cX11_head 131 = .ok (.aload_n 0, 1) := by decide +kernel
theorem dX11_head_132 : decode cX11_head 132 = .ok (.getfield 44, 3) := by decide +kernel
theorem dX11_head_135 : decode cX11_head 135 = .ok (.getfield 156, 3) := by decide +kernel
theorem dX11_head_138 : decode cX11_head 138 = .ok (.iload 4, 2) := by decide +kernel
theorem dX11_head_140 : decode cX11_head 140 = .ok (.iaload, 1) := by decide +kernel
theorem dX11_head_141 : decode cX11_head 141 = .ok (.ireturn, 1) := by decide +kernel
theorem dX11_head_142 : decode cX11_head 142 = .ok (.iconst 0, 1) := by decide +kernel
theorem dX11_head_143 : decode cX11_head 143 = .ok (.ireturn, 1) := by decide +kernel
theorem dX11_within_0 : decode cX11_within 0 = .ok (.aload_n 0, 1) := by decide +kernel
theorem dX11_within_1 : decode cX11_within 1 = .ok (.getfield 37, 3) := by decide +kernel
theorem dX11_within_4 : decode cX11_within 4 = .ok (.iload_n 1, 1) := by decide +kernel
theorem dX11_within_5 : decode cX11_within 5 = .ok (.invokevirtual 159, 3) := by decide +kernel
theorem dX11_within_8 : decode cX11_within 8 = .ok (.astore 5, 2) := by decide +kernel
theorem dX11_within_10 : decode cX11_within 10 = .ok (.aload_n 0, 1) := by decide +kernel
theorem dX11_within_11 : decode cX11_within 11 = .ok (.getfield 37, 3) := by decide +kernel
theorem dX11_within_14 : decode cX11_within 14 = .ok (.iload_n 2, 1) := by decide +kernel
theorem dX11_within_15 : decode cX11_within 15 = .ok (.invokevirtual 69, 3) := by decide +kernel
theorem dX11_within_18 : decode cX11_within 18 = .ok (.astore 6, 2) := by decide +kernel
theorem dX11_within_20 : decode cX11_within 20 = .ok (.aload 5, 2) := by decide +kernel
theorem dX11_within_22 : decode cX11_within 22 = .ok (.ifnull 33, 3) := by decide +kernel
theorem dX11_within_25 : decode cX11_within 25 = .ok (.aload 6, 2) := by decide +kernel
theorem dX11_within_27 : decode cX11_within 27 = .ok (.ifnull 28, 3) := by decide +kernel
theorem dX11_within_30 : decode cX11_within 30 = .ok (.aload 6, 2) := by decide +kernel
theorem dX11_within_32 : decode cX11_within 32 = .ok (.iload_n 3, 1) := by decide +kernel
theorem dX11_within_33 : decode cX11_within 33 = .ok (.invokevirtual 80, 3) := by decide +kernel
theorem dX11_within_36 : decode cX11_within 36 = .ok (.ifCond .eq 19, 3) := by decide +kernel
theorem dX11_within_39 : decode cX11_within 39 = .ok (.iload 4, 2) := by decide +kernel
theorem dX11_within_41 : decode cX11_within 41 = .ok (.iload_n 3, 1) := by decide +kernel
theorem dX11_within_42 : decode cX11_within 42 = .ok (.if_icmp .ge 13, 3) := by decide +kernel
theorem dX11_within_45 : decode cX11_within 45 = .ok (.aload 6, 2) := by decide +kernel
theorem dX11_within_47 : decode cX11_within 47 = .ok (.iload 4, 2) := by decide +kernel
theorem dX11_within_49 : decode cX11_within 49 = .ok (.invokevirtual 96, 3) := by decide +kernel
theorem dX11_within_52 : decode cX11_within 52 = .ok (.ifCond .ne 5, 3) := by decide +kernel
theorem dX11_within_55 : decode cX11_within 55 = .ok (.iconst (-1), 1) := by decide +kernel
theorem dX11_within_56 : decode cX11_within 56 = .ok (.ireturn, 1) := by decide +kernel
theorem dX11_within_57 : decode cX11_within 57 = .ok (.aload 5, 2) := by decide +kernel
theorem dX11_within_59 : decode cX11_within 59 = .ok (.iconst 1, 1) := by decide +kernel
theorem dX11_within_60 : decode cX11_within 60 = .ok (.iload_n 3, 1) := by decide +kernel
theorem dX11_within_61 : decode cX11_within 61 = .ok (.iload 4, 2) := by decide +kernel
theorem dX11_within_63 : decode cX11_within 63 = .ok (.invokevirtual 163, 3) := by decide +kernel
theorem dX11_within_66 : decode cX11_within 66 = .ok (.aload 6, 2) := by decide +kernel
theorem dX11_within_68 : decode cX11_within 68 = .ok (.aload 5, 2) := by decide +kernel
theorem dX11_within_70 : decode cX11_within 70 = .ok (.iload_n 3, 1) := by decide +kernel
theorem dX11_within_71 : decode cX11_within 71 = .ok (.iload 4, 2) := by decide +kernel
theorem dX11_within_73 : decode cX11_within 73 = .ok (.iload 4, 2) := by decide +kernel
theorem dX11_within_75 : decode cX11_within 75 = .ok (.iconst 1, 1) := by decide +kernel
theorem dX11_within_76 : decode cX11_within 76 = .ok (.iadd, 1) := by decide +kernel
theorem dX11_within_77 : decode cX11_within 77 = .ok (.invokevirtual 167, 3) := by decide +kernel
theorem dX11_within_80 : decode cX11_within 80 = .ok (.aload 5, 2) := by decide +kernel
theorem dX11_within_82 : decode cX11_within 82 = .ok (.getfield 171, 3) := by decide +kernel
theorem dX11_within_85 : decode cX11_within 85 = .ok (.ireturn, 1) := by decide +kernel
theorem dX11_grown_0 : decode cX11_grown 0 = .ok (.aload_n 0, 1) := by decide +kernel
theorem dX11_grown_1 : decode cX11_grown 1 = .ok (.getfield 37, 3) := by decide +kernel
theorem dX11_grown_4 : decode cX11_grown 4 = .ok (.iload_n 1, 1) := by decide +kernel
theorem dX11_grown_5 : decode cX11_grown 5 = .ok (.invokevirtual 159, 3) := by decide +kernel
theorem dX11_grown_8 : decode cX11_grown 8 = .ok (.astore 5, 2) := by decide +kernel
theorem dX11_grown_10 : decode cX11_grown 10 = .ok (.aload_n 0, 1) := by decide +kernel
theorem dX11_grown_11 : decode cX11_grown 11 = .ok (.getfield 37, 3) := by decide +kernel
theorem dX11_grown_14 : decode cX11_grown 14 = .ok (.iload_n 2, 1) := by decide +kernel
theorem dX11_grown_15 : decode cX11_grown 15 = .ok (.invokevirtual 69, 3) := by decide +kernel
theorem dX11_grown_18 : decode cX11_grown 18 = .ok (.astore 6, 2) := by decide +kernel
theorem dX11_grown_20 : decode cX11_grown 20 = .ok (.aload 5, 2) := by decide +kernel
theorem dX11_grown_22 : decode cX11_grown 22 = .ok (.ifnull 33, 3) := by decide +kernel
theorem dX11_grown_25 : decode cX11_grown 25 = .ok (.aload 6, 2) := by decide +kernel
theorem dX11_grown_27 : decode cX11_grown 27 = .ok (.ifnull 28, 3) := by decide +kernel
theorem dX11_grown_30 : decode cX11_grown 30 = .ok (.aload 6, 2) := by decide +kernel
theorem dX11_grown_32 : decode cX11_grown 32 = .ok (.iload_n 3, 1) := by decide +kernel
theorem dX11_grown_33 : decode cX11_grown 33 = .ok (.invokevirtual 80, 3) := by decide +kernel
theorem dX11_grown_36 : decode cX11_grown 36 = .ok (.ifCond .eq 19, 3) := by decide +kernel
theorem dX11_grown_39 : decode cX11_grown 39 = .ok (.aload 6, 2) := by decide +kernel
theorem dX11_grown_41 : decode cX11_grown 41 = .ok (.iload 4, 2) := by decide +kernel
theorem dX11_grown_43 : decode cX11_grown 43 = .ok (.invokevirtual 80, 3) := by decide +kernel
theorem dX11_grown_46 : decode cX11_grown 46 = .ok (.ifCond .eq 9, 3) := by decide +kernel
theorem dX11_grown_49 : decode cX11_grown 49 = .ok (.iload_n 3, 1) := by decide +kernel
theorem dX11_grown_50 : decode cX11_grown 50 = .ok (.iload 4, 2) := by decide +kernel
theorem dX11_grown_52 : decode cX11_grown 52 = .ok (.if_icmp .le 5, 3) := by decide +kernel
theorem dX11_grown_55 : decode cX11_grown 55 = .ok (.iconst (-1), 1) := by decide +kernel
theorem dX11_grown_56 : decode cX11_grown 56 = .ok (.ireturn, 1) := by decide +kernel
theorem dX11_grown_57 : decode cX11_grown 57 = .ok (.aload 6, 2) := by decide +kernel
theorem dX11_grown_59 : decode cX11_grown 59 = .ok (.aload 5, 2) := by decide +kernel
theorem dX11_grown_61 : decode cX11_grown 61 = .ok (.iload_n 3, 1) := by decide +kernel
theorem dX11_grown_62 : decode cX11_grown 62 = .ok (.iload 4, 2) := by decide +kernel
theorem dX11_grown_64 : decode cX11_grown 64 = .ok (.invokevirtual 174, 3) := by decide +kernel
theorem dX11_grown_67 : decode cX11_grown 67 = .ok (.aload 5, 2) := by decide +kernel
theorem dX11_grown_69 : decode cX11_grown 69 = .ok (.getfield 171, 3) := by decide +kernel
theorem dX11_grown_72 : decode cX11_grown 72 = .ok (.ireturn, 1) := by decide +kernel
theorem dX11_held_0 : decode cX11_held 0 = .ok (.aload_n 0, 1) := by decide +kernel
theorem dX11_held_1 : decode cX11_held 1 = .ok (.getfield 37, 3) := by decide +kernel
theorem dX11_held_4 : decode cX11_held 4 = .ok (.iload_n 1, 1) := by decide +kernel
theorem dX11_held_5 : decode cX11_held 5 = .ok (.invokevirtual 159, 3) := by decide +kernel
theorem dX11_held_8 : decode cX11_held 8 = .ok (.astore 5, 2) := by decide +kernel
theorem dX11_held_10 : decode cX11_held 10 = .ok (.aload_n 0, 1) := by decide +kernel
theorem dX11_held_11 : decode cX11_held 11 = .ok (.getfield 37, 3) := by decide +kernel
theorem dX11_held_14 : decode cX11_held 14 = .ok (.iload_n 2, 1) := by decide +kernel
theorem dX11_held_15 : decode cX11_held 15 = .ok (.invokevirtual 69, 3) := by decide +kernel
theorem dX11_held_18 : decode cX11_held 18 = .ok (.astore 6, 2) := by decide +kernel
theorem dX11_held_20 : decode cX11_held 20 = .ok (.aload 5, 2) := by decide +kernel
theorem dX11_held_22 : decode cX11_held 22 = .ok (.ifnull 17, 3) := by decide +kernel
theorem dX11_held_25 : decode cX11_held 25 = .ok (.aload 6, 2) := by decide +kernel
theorem dX11_held_27 : decode cX11_held 27 = .ok (.ifnull 12, 3) := by decide +kernel
theorem dX11_held_30 : decode cX11_held 30 = .ok (.aload 6, 2) := by decide +kernel
theorem dX11_held_32 : decode cX11_held 32 = .ok (.iload_n 3, 1) := by decide +kernel
theorem dX11_held_33 : decode cX11_held 33 = .ok (.invokevirtual 80, 3) := by decide +kernel
theorem dX11_held_36 : decode cX11_held 36 = .ok (.ifCond .ne 5, 3) := by decide +kernel
theorem dX11_held_39 : decode cX11_held 39 = .ok (.iconst (-1), 1) := by decide +kernel
theorem dX11_held_40 : decode cX11_held 40 = .ok (.ireturn, 1) := by decide +kernel
theorem dX11_held_41 : decode cX11_held 41 = .ok (.aload_n 0, 1) := by decide +kernel
theorem dX11_held_42 : decode cX11_held 42 = .ok (.getfield 21, 3) := by decide +kernel
theorem dX11_held_45 : decode cX11_held 45 = .ok (.aload 6, 2) := by decide +kernel
theorem dX11_held_47 : decode cX11_held 47 = .ok (.iload_n 3, 1) := by decide +kernel
theorem dX11_held_48 : decode cX11_held 48 = .ok (.invokevirtual 110, 3) := by decide +kernel
theorem dX11_held_51 : decode cX11_held 51 = .ok (.aload_n 0, 1) := by decide +kernel
theorem dX11_held_52 : decode cX11_held 52 = .ok (.getfield 21, 3) := by decide +kernel
theorem dX11_held_55 : decode cX11_held 55 = .ok (.aload 6, 2) := by decide +kernel
theorem dX11_held_57 : decode cX11_held 57 = .ok (.getfield 124, 3) := by decide +kernel
theorem dX11_held_60 : decode cX11_held 60 = .ok (.iload 4, 2) := by decide +kernel
theorem dX11_held_62 : decode cX11_held 62 = .ok (.invokevirtual 128, 3) := by decide +kernel
theorem dX11_held_65 : decode cX11_held 65 = .ok (.invokevirtual 133, 3) := by decide +kernel
theorem dX11_held_68 : decode cX11_held 68 = .ok (.istore 7, 2) := by decide +kernel
theorem dX11_held_70 : decode cX11_held 70 = .ok (.iload 7, 2) := by decide +kernel
theorem dX11_held_72 : decode cX11_held 72 = .ok (.iconst (-1), 1) := by decide +kernel
theorem dX11_held_73 : decode cX11_held 73 = .ok (.if_icmp .ne 5, 3) := by decide +kernel
theorem dX11_held_76 : decode cX11_held 76 = .ok (.iconst (-1), 1) := by decide +kernel
theorem dX11_held_77 : decode cX11_held 77 = .ok (.ireturn, 1) := by decide +kernel
theorem dX11_held_78 : decode cX11_held 78 = .ok (.aload 5, 2) := by decide +kernel
theorem dX11_held_80 : decode cX11_held 80 = .ok (.iconst 3, 1) := by decide +kernel
theorem dX11_held_81 : decode cX11_held 81 = .ok (.iload_n 3, 1) := by decide +kernel
theorem dX11_held_82 : decode cX11_held 82 = .ok (.iconst 0, 1) := by decide +kernel
theorem dX11_held_83 : decode cX11_held 83 = .ok (.invokevirtual 163, 3) := by decide +kernel
theorem dX11_held_86 : decode cX11_held 86 = .ok (.aload 5, 2) := by decide +kernel
theorem dX11_held_88 : decode cX11_held 88 = .ok (.iload 4, 2) := by decide +kernel
theorem dX11_held_90 : decode cX11_held 90 = .ok (.putfield 178, 3) := by decide +kernel
theorem dX11_held_93 : decode cX11_held 93 = .ok (.aload 5, 2) := by decide +kernel
theorem dX11_held_95 : decode cX11_held 95 = .ok (.iload 7, 2) := by decide +kernel
theorem dX11_held_97 : decode cX11_held 97 = .ok (.putfield 181, 3) := by decide +kernel
theorem dX11_held_100 : decode cX11_held 100 = .ok (.aload_n 0, 1) := by decide +kernel
theorem dX11_held_101 : decode cX11_held 101 = .ok (.getfield 21, 3) := by decide +kernel
theorem dX11_held_104 : decode cX11_held 104 = .ok (.aload 6, 2) := by decide +kernel
theorem dX11_held_106 : decode cX11_held 106 = .ok (.getfield 124, 3) := by decide +kernel
theorem dX11_held_109 : decode cX11_held 109 = .ok (.aload 5, 2) := by decide +kernel
theorem dX11_held_111 : decode cX11_held 111 = .ok (.invokevirtual 184, 3) := by decide +kernel
theorem dX11_held_114 : decode cX11_held 114 = .ok (.pop, 1) := by decide +kernel
theorem dX11_held_115 : decode cX11_held 115 = .ok (.aload 5, 2) := by decide +kernel
theorem dX11_held_117 : decode cX11_held 117 = .ok (.getfield 171, 3) := by decide +kernel
theorem dX11_held_120 : decode cX11_held 120 = .ok (.ireturn, 1) := by decide +kernel
theorem dX11_absent_0 : decode cX11_absent 0 = .ok (.aload_n 0, 1) := by decide +kernel
theorem dX11_absent_1 : decode cX11_absent 1 = .ok (.getfield 37, 3) := by decide +kernel
theorem dX11_absent_4 : decode cX11_absent 4 = .ok (.iload_n 1, 1) := by decide +kernel
theorem dX11_absent_5 : decode cX11_absent 5 = .ok (.invokevirtual 159, 3) := by decide +kernel
theorem dX11_absent_8 : decode cX11_absent 8 = .ok (.astore 5, 2) := by decide +kernel
theorem dX11_absent_10 : decode cX11_absent 10 = .ok (.aload_n 0, 1) := by decide +kernel
theorem dX11_absent_11 : decode cX11_absent 11 = .ok (.getfield 37, 3) := by decide +kernel
theorem dX11_absent_14 : decode cX11_absent 14 = .ok (.iload_n 2, 1) := by decide +kernel
theorem dX11_absent_15 : decode cX11_absent 15 = .ok (.invokevirtual 69, 3) := by decide +kernel
theorem dX11_absent_18 : decode cX11_absent 18 = .ok (.astore 6, 2) := by decide +kernel
theorem dX11_absent_20 : decode cX11_absent 20 = .ok (.aload 5, 2) := by decide +kernel
theorem dX11_absent_22 : decode cX11_absent 22 = .ok (.ifnull 17, 3) := by decide +kernel
theorem dX11_absent_25 : decode cX11_absent 25 = .ok (.aload 6, 2) := by decide +kernel
theorem dX11_absent_27 : decode cX11_absent 27 = .ok (.ifnull 12, 3) := by decide +kernel
theorem dX11_absent_30 : decode cX11_absent 30 = .ok (.aload 6, 2) := by decide +kernel
theorem dX11_absent_32 : decode cX11_absent 32 = .ok (.iload_n 3, 1) := by decide +kernel
theorem dX11_absent_33 : decode cX11_absent 33 = .ok (.invokevirtual 80, 3) := by decide +kernel
theorem dX11_absent_36 : decode cX11_absent 36 = .ok (.ifCond .ne 5, 3) := by decide +kernel
theorem dX11_absent_39 : decode cX11_absent 39 = .ok (.iconst (-1), 1) := by decide +kernel
theorem dX11_absent_40 : decode cX11_absent 40 = .ok (.ireturn, 1) := by decide +kernel
theorem dX11_absent_41 : decode cX11_absent 41 = .ok (.aload_n 0, 1) := by decide +kernel
theorem dX11_absent_42 : decode cX11_absent 42 = .ok (.getfield 21, 3) := by decide +kernel
theorem dX11_absent_45 : decode cX11_absent 45 = .ok (.aload 6, 2) := by decide +kernel
theorem dX11_absent_47 : decode cX11_absent 47 = .ok (.iload_n 3, 1) := by decide +kernel
theorem dX11_absent_48 : decode cX11_absent 48 = .ok (.invokevirtual 110, 3) := by decide +kernel
theorem dX11_absent_51 : decode cX11_absent 51 = .ok (.aload_n 0, 1) := by decide +kernel
theorem dX11_absent_52 : decode cX11_absent 52 = .ok (.getfield 21, 3) := by decide +kernel
theorem dX11_absent_55 : decode cX11_absent 55 = .ok (.aload 6, 2) := by decide +kernel
theorem dX11_absent_57 : decode cX11_absent 57 = .ok (.getfield 124, 3) := by decide +kernel
theorem dX11_absent_60 : decode cX11_absent 60 = .ok (.iload 4, 2) := by decide +kernel
theorem dX11_absent_62 : decode cX11_absent 62 = .ok (.invokevirtual 128, 3) := by decide +kernel
theorem dX11_absent_65 : decode cX11_absent 65 = .ok (.invokevirtual 133, 3) := by decide +kernel
theorem dX11_absent_68 : decode cX11_absent 68 = .ok (.iconst (-1), 1) := by decide +kernel
theorem dX11_absent_69 : decode cX11_absent 69 = .ok (.if_icmp .eq 5, 3) := by decide +kernel
theorem dX11_absent_72 : decode cX11_absent 72 = .ok (.iconst (-1), 1) := by decide +kernel
theorem dX11_absent_73 : decode cX11_absent 73 = .ok (.ireturn, 1) := by decide +kernel
theorem dX11_absent_74 : decode cX11_absent 74 = .ok (.aload 5, 2) := by decide +kernel
theorem dX11_absent_76 : decode cX11_absent 76 = .ok (.iconst 4, 1) := by decide +kernel
theorem dX11_absent_77 : decode cX11_absent 77 = .ok (.iload_n 3, 1) := by decide +kernel
theorem dX11_absent_78 : decode cX11_absent 78 = .ok (.iconst 0, 1) := by decide +kernel
theorem dX11_absent_79 : decode cX11_absent 79 = .ok (.invokevirtual 163, 3) := by decide +kernel
theorem dX11_absent_82 : decode cX11_absent 82 = .ok (.aload 5, 2) := by decide +kernel
theorem dX11_absent_84 : decode cX11_absent 84 = .ok (.iload 4, 2) := by decide +kernel
theorem dX11_absent_86 : decode cX11_absent 86 = .ok (.putfield 178, 3) := by decide +kernel
theorem dX11_absent_89 : decode cX11_absent 89 = .ok (.aload_n 0, 1) := by decide +kernel
theorem dX11_absent_90 : decode cX11_absent 90 = .ok (.getfield 21, 3) := by decide +kernel
theorem dX11_absent_93 : decode cX11_absent 93 = .ok (.aload 6, 2) := by decide +kernel
theorem dX11_absent_95 : decode cX11_absent 95 = .ok (.getfield 124, 3) := by decide +kernel
theorem dX11_absent_98 : decode cX11_absent 98 = .ok (.aload 5, 2) := by decide +kernel
theorem dX11_absent_100 : decode cX11_absent 100 = .ok (.invokevirtual 184, 3) := by decide +kernel
theorem dX11_absent_103 : decode cX11_absent 103 = .ok (.istore 7, 2) := by decide +kernel
theorem dX11_absent_105 : decode cX11_absent 105 = .ok (.aload 5, 2) := by decide +kernel
theorem dX11_absent_107 : decode cX11_absent 107 = .ok (.aload_n 0, 1) := by decide +kernel
theorem dX11_absent_108 : decode cX11_absent 108 = .ok (.getfield 21, 3) := by decide +kernel
theorem dX11_absent_111 : decode cX11_absent 111 = .ok (.iload 7, 2) := by decide +kernel
theorem dX11_absent_113 : decode cX11_absent 113 = .ok (.invokevirtual 133, 3) := by decide +kernel
theorem dX11_absent_116 : decode cX11_absent 116 = .ok (.putfield 181, 3) := by decide +kernel
theorem dX11_absent_119 : decode cX11_absent 119 = .ok (.aload 5, 2) := by decide +kernel
theorem dX11_absent_121 : decode cX11_absent 121 = .ok (.aload 6, 2) := by decide +kernel
theorem dX11_absent_123 : decode cX11_absent 123 = .ok (.getfield 124, 3) := by decide +kernel
theorem dX11_absent_126 : decode cX11_absent 126 = .ok (.iload 7, 2) := by decide +kernel
theorem dX11_absent_128 : decode cX11_absent 128 = .ok (.invokevirtual 188, 3) := by decide +kernel
theorem dX11_absent_131 : decode cX11_absent 131 = .ok (.putfield 191, 3) := by decide +kernel
theorem dX11_absent_134 : decode cX11_absent 134 = .ok (.aload 5, 2) := by decide +kernel
theorem dX11_absent_136 : decode cX11_absent 136 = .ok (.getfield 171, 3) := by decide +kernel
theorem dX11_absent_139 : decode cX11_absent 139 = .ok (.ireturn, 1) := by decide +kernel
theorem dX11_span_0 : decode cX11_span 0 = .ok (.aload_n 0, 1) := by decide +kernel
theorem dX11_span_1 : decode cX11_span 1 = .ok (.getfield 37, 3) := by decide +kernel
theorem dX11_span_4 : decode cX11_span 4 = .ok (.iload_n 1, 1) := by decide +kernel
theorem dX11_span_5 : decode cX11_span 5 = .ok (.invokevirtual 159, 3) := by decide +kernel
theorem dX11_span_8 : decode cX11_span 8 = .ok (.astore 6, 2) := by decide +kernel
theorem dX11_span_10 : decode cX11_span 10 = .ok (.aload_n 0, 1) := by decide +kernel
theorem dX11_span_11 : decode cX11_span 11 = .ok (.getfield 37, 3) := by decide +kernel
theorem dX11_span_14 : decode cX11_span 14 = .ok (.iload_n 2, 1) := by decide +kernel
theorem dX11_span_15 : decode cX11_span 15 = .ok (.invokevirtual 69, 3) := by decide +kernel
theorem dX11_span_18 : decode cX11_span 18 = .ok (.astore 7, 2) := by decide +kernel
theorem dX11_span_20 : decode cX11_span 20 = .ok (.aload 6, 2) := by decide +kernel
theorem dX11_span_22 : decode cX11_span 22 = .ok (.ifnull 17, 3) := by decide +kernel
theorem dX11_span_25 : decode cX11_span 25 = .ok (.aload 7, 2) := by decide +kernel
theorem dX11_span_27 : decode cX11_span 27 = .ok (.ifnull 12, 3) := by decide +kernel
theorem dX11_span_30 : decode cX11_span 30 = .ok (.aload 7, 2) := by decide +kernel
theorem dX11_span_32 : decode cX11_span 32 = .ok (.iload_n 3, 1) := by decide +kernel
theorem dX11_span_33 : decode cX11_span 33 = .ok (.invokevirtual 80, 3) := by decide +kernel
theorem dX11_span_36 : decode cX11_span 36 = .ok (.ifCond .ne 5, 3) := by decide +kernel
theorem dX11_span_39 : decode cX11_span 39 = .ok (.iconst (-1), 1) := by decide +kernel
theorem dX11_span_40 : decode cX11_span 40 = .ok (.ireturn, 1) := by decide +kernel
theorem dX11_span_41 : decode cX11_span 41 = .ok (.iload 4, 2) := by decide +kernel
theorem dX11_span_43 : decode cX11_span 43 = .ok (.ifCond .lt 38, 3) := by decide +kernel
theorem dX11_span_46 : decode cX11_span 46 = .ok (.iload 4, 2) := by decide +kernel
theorem dX11_span_48 : decode cX11_span 48 = .ok (.iload 5, 2) := by decide +kernel
theorem dX11_span_50 : decode cX11_span 50 = .ok (.if_icmp .gt 31, 3) := by decide +kernel
theorem dX11_span_53 : decode cX11_span 53 = .ok (.iload 5, 2) := by decide +kernel
theorem dX11_span_55 : decode cX11_span 55 = .ok (.iload_n 3, 1) := by decide +kernel
theorem dX11_span_56 : decode cX11_span 56 = .ok (.if_icmp .gt 25, 3) := by decide +kernel
theorem dX11_span_59 : decode cX11_span 59 = .ok (.iload 5, 2) := by decide +kernel
theorem dX11_span_61 : decode cX11_span 61 = .ok (.iload 4, 2) := by decide +kernel
theorem dX11_span_63 : decode cX11_span 63 = .ok (.isub, 1) := by decide +kernel
theorem dX11_span_64 : decode cX11_span 64 = .ok (.bipush 40, 2) := by decide +kernel
theorem dX11_span_66 : decode cX11_span 66 = .ok (.if_icmp .gt 15, 3) := by decide +kernel
theorem dX11_span_69 : decode cX11_span 69 = .ok (.aload 7, 2) := by decide +kernel
theorem dX11_span_71 : decode cX11_span 71 = .ok (.iload 4, 2) := by decide +kernel
theorem dX11_span_73 : decode cX11_span 73 = .ok (.iload 5, 2) := by decide +kernel
theorem dX11_span_75 : decode cX11_span 75 = .ok (.invokevirtual 194, 3) := by decide +kernel
theorem dX11_span_78 : decode cX11_span 78 = .ok (.ifCond .ne 5, 3) := by decide +kernel
theorem dX11_span_81 : decode cX11_span 81 = .ok (.iconst (-1), 1) := by decide +kernel
theorem dX11_span_82 : decode cX11_span 82 = .ok (.ireturn, 1) := by decide +kernel
theorem dX11_span_83 : decode cX11_span 83 = .ok (.aload 6, 2) := by decide +kernel
theorem dX11_span_85 : decode cX11_span 85 = .ok (.iconst 5, 1) := by decide +kernel
theorem dX11_span_86 : decode cX11_span 86 = .ok (.iload_n 3, 1) := by decide +kernel
theorem dX11_span_87 : decode cX11_span 87 = .ok (.iload 4, 2) := by decide +kernel
theorem dX11_span_89 : decode cX11_span 89 = .ok (.invokevirtual 163, 3) := by decide +kernel
theorem dX11_span_92 : decode cX11_span 92 = .ok (.aload 6, 2) := by decide +kernel
theorem dX11_span_94 : decode cX11_span 94 = .ok (.iload 5, 2) := by decide +kernel
theorem dX11_span_96 : decode cX11_span 96 = .ok (.putfield 198, 3) := by decide +kernel
theorem dX11_span_99 : decode cX11_span 99 = .ok (.aload 7, 2) := by decide +kernel
theorem dX11_span_101 : decode cX11_span 101 = .ok (.aload 6, 2) := by decide +kernel
theorem dX11_span_103 : decode cX11_span 103 = .ok (.iload_n 3, 1) := by decide +kernel
theorem dX11_span_104 : decode cX11_span 104 = .ok (.iload 4, 2) := by decide +kernel
theorem dX11_span_106 : decode cX11_span 106 = .ok (.iload 5, 2) := by decide +kernel
theorem dX11_span_108 : decode cX11_span 108 = .ok (.invokevirtual 167, 3) := by decide +kernel
theorem dX11_span_111 : decode cX11_span 111 = .ok (.aload 6, 2) := by decide +kernel
theorem dX11_span_113 : decode cX11_span 113 = .ok (.getfield 171, 3) := by decide +kernel
theorem dX11_span_116 : decode cX11_span 116 = .ok (.ireturn, 1) := by decide +kernel
theorem dX11_drop_0 : decode cX11_drop 0 = .ok (.aload_n 0, 1) := by decide +kernel
theorem dX11_drop_1 : decode cX11_drop 1 = .ok (.getfield 37, 3) := by decide +kernel
theorem dX11_drop_4 : decode cX11_drop 4 = .ok (.iload_n 1, 1) := by decide +kernel
theorem dX11_drop_5 : decode cX11_drop 5 = .ok (.invokevirtual 159, 3) := by decide +kernel
theorem dX11_drop_8 : decode cX11_drop 8 = .ok (.astore_n 2, 1) := by decide +kernel
theorem dX11_drop_9 : decode cX11_drop 9 = .ok (.aload_n 2, 1) := by decide +kernel
theorem dX11_drop_10 : decode cX11_drop 10 = .ok (.ifnonnull 5, 3) := by decide +kernel
theorem dX11_drop_13 : decode cX11_drop 13 = .ok (.iconst (-1), 1) := by decide +kernel
theorem dX11_drop_14 : decode cX11_drop 14 = .ok (.ireturn, 1) := by decide +kernel
theorem dX11_drop_15 : decode cX11_drop 15 = .ok (.aload_n 2, 1) := by decide +kernel
theorem dX11_drop_16 : decode cX11_drop 16 = .ok (.getfield 201, 3) := by decide +kernel
theorem dX11_drop_19 : decode cX11_drop 19 = .ok (.istore_n 3, 1) := by decide +kernel
theorem dX11_drop_20 : decode cX11_drop 20 = .ok (.aload_n 2, 1) := by decide +kernel
theorem dX11_drop_21 : decode cX11_drop 21 = .ok (.iconst 0, 1) := by decide +kernel
theorem dX11_drop_22 : decode cX11_drop 22 = .ok (.iconst 0, 1) := by decide +kernel
theorem dX11_drop_23 : decode cX11_drop 23 = .ok (.iconst 0, 1) := by decide +kernel
theorem dX11_drop_24 : decode cX11_drop 24 = .ok (.invokevirtual 163, 3) := by decide +kernel
theorem dX11_drop_27 : decode cX11_drop 27 = .ok (.iload_n 3, 1) := by decide +kernel
theorem dX11_drop_28 : decode cX11_drop 28 = .ok (.ireturn, 1) := by decide +kernel
theorem dX11_proof_0 : decode cX11_proof 0 = .ok (.aload_n 0, 1) := by decide +kernel
theorem dX11_proof_1 : decode cX11_proof 1 = .ok (.getfield 37, 3) := by decide +kernel
theorem dX11_proof_4 : decode cX11_proof 4 = .ok (.iload_n 1, 1) := by decide +kernel
theorem dX11_proof_5 : decode cX11_proof 5 = .ok (.invokevirtual 159, 3) := by decide +kernel
theorem dX11_proof_8 : decode cX11_proof 8 = .ok (.astore_n 3, 1) := by decide +kernel
theorem dX11_proof_9 : decode cX11_proof 9 = .ok (.aload_n 3, 1) := by decide +kernel
theorem dX11_proof_10 : decode cX11_proof 10 = .ok (.ifnonnull 5, 3) := by decide +kernel
theorem dX11_proof_13 : decode cX11_proof 13 = .ok (.iconst (-1), 1) := by decide +kernel
theorem dX11_proof_14 : decode cX11_proof 14 = .ok (.ireturn, 1) := by decide +kernel
theorem dX11_proof_15 : decode cX11_proof 15 = .ok (.iload_n 2, 1) := by decide +kernel
theorem dX11_proof_16 : decode cX11_proof 16 = .ok (.tableswitch 88 0 7 #[48, 53, 58, 63, 68, 73, 78, 83], 48) := by decide +kernel
theorem dX11_proof_64 : decode cX11_proof 64 = .ok (.aload_n 3, 1) := by decide +kernel
theorem dX11_proof_65 : decode cX11_proof 65 = .ok (.getfield 201, 3) := by decide +kernel
theorem dX11_proof_68 : decode cX11_proof 68 = .ok (.ireturn, 1) := by decide +kernel
theorem dX11_proof_69 : decode cX11_proof 69 = .ok (.aload_n 3, 1) := by decide +kernel
theorem dX11_proof_70 : decode cX11_proof 70 = .ok (.getfield 171, 3) := by decide +kernel
theorem dX11_proof_73 : decode cX11_proof 73 = .ok (.ireturn, 1) := by decide +kernel
theorem dX11_proof_74 : decode cX11_proof 74 = .ok (.aload_n 3, 1) := by decide +kernel
theorem dX11_proof_75 : decode cX11_proof 75 = .ok (.getfield 204, 3) := by decide +kernel
theorem dX11_proof_78 : decode cX11_proof 78 = .ok (.ireturn, 1) := by decide +kernel
theorem dX11_proof_79 : decode cX11_proof 79 = .ok (.aload_n 3, 1) := by decide +kernel
theorem dX11_proof_80 : decode cX11_proof 80 = .ok (.getfield 207, 3) := by decide +kernel
theorem dX11_proof_83 : decode cX11_proof 83 = .ok (.ireturn, 1) := by decide +kernel
theorem dX11_proof_84 : decode cX11_proof 84 = .ok (.aload_n 3, 1) := by decide +kernel
theorem dX11_proof_85 : decode cX11_proof 85 = .ok (.getfield 198, 3) := by decide +kernel
theorem dX11_proof_88 : decode cX11_proof 88 = .ok (.ireturn, 1) := by decide +kernel
theorem dX11_proof_89 : decode cX11_proof 89 = .ok (.aload_n 3, 1) := by decide +kernel
theorem dX11_proof_90 : decode cX11_proof 90 = .ok (.invokevirtual 210, 3) := by decide +kernel
theorem dX11_proof_93 : decode cX11_proof 93 = .ok (.ireturn, 1) := by decide +kernel
theorem dX11_proof_94 : decode cX11_proof 94 = .ok (.aload_n 3, 1) := by decide +kernel
theorem dX11_proof_95 : decode cX11_proof 95 = .ok (.getfield 181, 3) := by decide +kernel
theorem dX11_proof_98 : decode cX11_proof 98 = .ok (.ireturn, 1) := by decide +kernel
theorem dX11_proof_99 : decode cX11_proof 99 = .ok (.aload_n 3, 1) := by decide +kernel
theorem dX11_proof_100 : decode cX11_proof 100 = .ok (.getfield 191, 3) := by decide +kernel
theorem dX11_proof_103 : decode cX11_proof 103 = .ok (.ireturn, 1) := by decide +kernel
theorem dX11_proof_104 : decode cX11_proof 104 = .ok (.iconst (-1), 1) := by decide +kernel
theorem dX11_proof_105 : decode cX11_proof 105 = .ok (.ireturn, 1) := by decide +kernel
theorem dX11_step_0 : decode cX11_step 0 = .ok (.aload_n 0, 1) := by decide +kernel
theorem dX11_step_1 : decode cX11_step 1 = .ok (.getfield 37, 3) := by decide +kernel
theorem dX11_step_4 : decode cX11_step 4 = .ok (.iload_n 1, 1) := by decide +kernel
theorem dX11_step_5 : decode cX11_step 5 = .ok (.invokevirtual 159, 3) := by decide +kernel
theorem dX11_step_8 : decode cX11_step 8 = .ok (.astore 4, 2) := by decide +kernel
theorem dX11_step_10 : decode cX11_step 10 = .ok (.aload 4, 2) := by decide +kernel
theorem dX11_step_12 : decode cX11_step 12 = .ok (.ifnull 19, 3) := by decide +kernel
theorem dX11_step_15 : decode cX11_step 15 = .ok (.aload 4, 2) := by decide +kernel
theorem dX11_step_17 : decode cX11_step 17 = .ok (.iload_n 2, 1) := by decide +kernel
theorem dX11_step_18 : decode cX11_step 18 = .ok (.invokevirtual 213, 3) := by decide +kernel
theorem dX11_step_21 : decode cX11_step 21 = .ok (.ifCond .eq 10, 3) := by decide +kernel
theorem dX11_step_24 : decode cX11_step 24 = .ok (.iload_n 3, 1) := by decide +kernel
theorem dX11_step_25 : decode cX11_step 25 = .ok (.invokestatic 136, 3) := by decide +kernel
theorem dX11_step_28 : decode cX11_step 28 = .ok (.ifCond .ne 5, 3) := by decide +kernel
theorem dX11_step_31 : decode cX11_step 31 = .ok (.iconst 0, 1) := by decide +kernel
theorem dX11_step_32 : decode cX11_step 32 = .ok (.ireturn, 1) := by decide +kernel
theorem dX11_step_33 : decode cX11_step 33 = .ok (.aload 4, 2) := by decide +kernel
theorem dX11_step_35 : decode cX11_step 35 = .ok (.getfield 216, 3) := by decide +kernel
theorem dX11_step_38 : decode cX11_step 38 = .ok (.iload_n 2, 1) := by decide +kernel
theorem dX11_step_39 : decode cX11_step 39 = .ok (.bipush 8, 2) := by decide +kernel
theorem dX11_step_41 : decode cX11_step 41 = .ok (.imul, 1) := by decide +kernel
theorem dX11_step_42 : decode cX11_step 42 = .ok (.iload_n 3, 1) := by decide +kernel
theorem dX11_step_43 : decode cX11_step 43 = .ok (.iadd, 1) := by decide +kernel
theorem dX11_step_44 : decode cX11_step 44 = .ok (.iaload, 1) := by decide +kernel
theorem dX11_step_45 : decode cX11_step 45 = .ok (.ireturn, 1) := by decide +kernel
theorem dX11_bend_0 : decode cX11_bend 0 = .ok (.aload_n 0, 1) := by decide +kernel
theorem dX11_bend_1 : decode cX11_bend 1 = .ok (.getfield 37, 3) := by decide +kernel
theorem dX11_bend_4 : decode cX11_bend 4 = .ok (.iload_n 1, 1) := by decide +kernel
theorem dX11_bend_5 : decode cX11_bend 5 = .ok (.invokevirtual 159, 3) := by decide +kernel
theorem dX11_bend_8 : decode cX11_bend 8 = .ok (.astore 5, 2) := by decide +kernel
theorem dX11_bend_10 : decode cX11_bend 10 = .ok (.aload 5, 2) := by decide +kernel
theorem dX11_bend_12 : decode cX11_bend 12 = .ok (.ifnull 19, 3) := by decide +kernel
theorem dX11_bend_15 : decode cX11_bend 15 = .ok (.aload 5, 2) := by decide +kernel
theorem dX11_bend_17 : decode cX11_bend 17 = .ok (.iload_n 2, 1) := by decide +kernel
theorem dX11_bend_18 : decode cX11_bend 18 = .ok (.invokevirtual 213, 3) := by decide +kernel
theorem dX11_bend_21 : decode cX11_bend 21 = .ok (.ifCond .eq 10, 3) := by decide +kernel
theorem dX11_bend_24 : decode cX11_bend 24 = .ok (.iload_n 3, 1) := by decide +kernel
theorem dX11_bend_25 : decode cX11_bend 25 = .ok (.invokestatic 136, 3) := by decide +kernel
theorem dX11_bend_28 : decode cX11_bend 28 = .ok (.ifCond .ne 5, 3) := by decide +kernel
theorem dX11_bend_31 : decode cX11_bend 31 = .ok (.iconst 0, 1) := by decide +kernel
theorem dX11_bend_32 : decode cX11_bend 32 = .ok (.ireturn, 1) := by decide +kernel
theorem dX11_bend_33 : decode cX11_bend 33 = .ok (.aload 5, 2) := by decide +kernel
theorem dX11_bend_35 : decode cX11_bend 35 = .ok (.getfield 216, 3) := by decide +kernel
theorem dX11_bend_38 : decode cX11_bend 38 = .ok (.iload_n 2, 1) := by decide +kernel
theorem dX11_bend_39 : decode cX11_bend 39 = .ok (.bipush 8, 2) := by decide +kernel
theorem dX11_bend_41 : decode cX11_bend 41 = .ok (.imul, 1) := by decide +kernel
theorem dX11_bend_42 : decode cX11_bend 42 = .ok (.iload_n 3, 1) := by decide +kernel
theorem dX11_bend_43 : decode cX11_bend 43 = .ok (.iadd, 1) := by decide +kernel
theorem dX11_bend_44 : decode cX11_bend 44 = .ok (.dup2, 1) := by decide +kernel
theorem dX11_bend_45 : decode cX11_bend 45 = .ok (.iaload, 1) := by decide +kernel
theorem dX11_bend_46 : decode cX11_bend 46 = .ok (.iload 4, 2) := by decide +kernel
theorem dX11_bend_48 : decode cX11_bend 48 = .ok (.ixor, 1) := by decide +kernel
theorem dX11_bend_49 : decode cX11_bend 49 = .ok (.iastore, 1) := by decide +kernel
theorem dX11_bend_50 : decode cX11_bend 50 = .ok (.iconst 1, 1) := by decide +kernel
theorem dX11_bend_51 : decode cX11_bend 51 = .ok (.ireturn, 1) := by decide +kernel
theorem dX11_forge_0 : decode cX11_forge 0 = .ok (.aload_n 0, 1) := by decide +kernel
theorem dX11_forge_1 : decode cX11_forge 1 = .ok (.getfield 37, 3) := by decide +kernel
theorem dX11_forge_4 : decode cX11_forge 4 = .ok (.iload_n 1, 1) := by decide +kernel
theorem dX11_forge_5 : decode cX11_forge 5 = .ok (.invokevirtual 159, 3) := by decide +kernel
theorem dX11_forge_8 : decode cX11_forge 8 = .ok (.astore 6, 2) := by decide +kernel
theorem dX11_forge_10 : decode cX11_forge 10 = .ok (.aload 6, 2) := by decide +kernel
theorem dX11_forge_12 : decode cX11_forge 12 = .ok (.ifnull 16, 3) := by decide +kernel
theorem dX11_forge_15 : decode cX11_forge 15 = .ok (.iload_n 2, 1) := by decide +kernel
theorem dX11_forge_16 : decode cX11_forge 16 = .ok (.ifCond .lt 12, 3) := by decide +kernel
theorem dX11_forge_19 : decode cX11_forge 19 = .ok (.iload_n 2, 1) := by decide +kernel
theorem dX11_forge_20 : decode cX11_forge 20 = .ok (.aload 6, 2) := by decide +kernel
theorem dX11_forge_22 : decode cX11_forge 22 = .ok (.getfield 219, 3) := by decide +kernel
theorem dX11_forge_25 : decode cX11_forge 25 = .ok (.if_icmp .lt 5, 3) := by decide +kernel
theorem dX11_forge_28 : decode cX11_forge 28 = .ok (.iconst 0, 1) := by decide +kernel
theorem dX11_forge_29 : decode cX11_forge 29 = .ok (.ireturn, 1) := by decide +kernel
theorem dX11_forge_30 : decode cX11_forge 30 = .ok (.aload 6, 2) := by decide +kernel
theorem dX11_forge_32 : decode cX11_forge 32 = .ok (.getfield 222, 3) := by decide +kernel
theorem dX11_forge_35 : decode cX11_forge 35 = .ok (.iload_n 2, 1) := by decide +kernel
theorem dX11_forge_36 : decode cX11_forge 36 = .ok (.iload_n 3, 1) := by decide +kernel
theorem dX11_forge_37 : decode cX11_forge 37 = .ok (.iastore, 1) := by decide +kernel
theorem dX11_forge_38 : decode cX11_forge 38 = .ok (.aload 6, 2) := by decide +kernel
theorem dX11_forge_40 : decode cX11_forge 40 = .ok (.getfield 225, 3) := by decide +kernel
theorem dX11_forge_43 : decode cX11_forge 43 = .ok (.iload_n 2, 1) := by decide +kernel
theorem dX11_forge_44 : decode cX11_forge 44 = .ok (.lload 4, 2) := by decide +kernel
theorem dX11_forge_46 : decode cX11_forge 46 = .ok (.lastore, 1) := by decide +kernel
theorem dX11_forge_47 : decode cX11_forge 47 = .ok (.iconst 1, 1) := by decide +kernel
theorem dX11_forge_48 : decode cX11_forge 48 = .ok (.ireturn, 1) := by decide +kernel
theorem dX11_check_0 : decode cX11_check 0 = .ok (.aload_n 0, 1) := by decide +kernel
theorem dX11_check_1 : decode cX11_check 1 = .ok (.getfield 37, 3) := by decide +kernel
theorem dX11_check_4 : decode cX11_check 4 = .ok (.iload_n 1, 1) := by decide +kernel
theorem dX11_check_5 : decode cX11_check 5 = .ok (.invokevirtual 159, 3) := by decide +kernel
theorem dX11_check_8 : decode cX11_check 8 = .ok (.astore 4, 2) := by decide +kernel
theorem dX11_check_10 : decode cX11_check 10 = .ok (.aload_n 0, 1) := by decide +kernel
theorem dX11_check_11 : decode cX11_check 11 = .ok (.getfield 37, 3) := by decide +kernel
theorem dX11_check_14 : decode cX11_check 14 = .ok (.iload_n 2, 1) := by decide +kernel
theorem dX11_check_15 : decode cX11_check 15 = .ok (.invokevirtual 229, 3) := by decide +kernel
theorem dX11_check_18 : decode cX11_check 18 = .ok (.astore 5, 2) := by decide +kernel
theorem dX11_check_20 : decode cX11_check 20 = .ok (.aload 4, 2) := by decide +kernel
theorem dX11_check_22 : decode cX11_check 22 = .ok (.ifnull 16, 3) := by decide +kernel
theorem dX11_check_25 : decode cX11_check 25 = .ok (.aload 4, 2) := by decide +kernel
theorem dX11_check_27 : decode cX11_check 27 = .ok (.getfield 201, 3) := by decide +kernel
theorem dX11_check_30 : decode cX11_check 30 = .ok (.ifCond .eq 8, 3) := by decide +kernel
theorem dX11_check_33 : decode cX11_check 33 = .ok (.aload 5, 2) := by decide +kernel
theorem dX11_check_35 : decode cX11_check 35 = .ok (.ifnonnull 5, 3) := by decide +kernel
theorem dX11_check_38 : decode cX11_check 38 = .ok (.iconst (-1), 1) := by decide +kernel
theorem dX11_check_39 : decode cX11_check 39 = .ok (.ireturn, 1) := by decide +kernel
theorem dX11_check_40 : decode cX11_check 40 = .ok (.aload 4, 2) := by decide +kernel
theorem dX11_check_42 : decode cX11_check 42 = .ok (.getfield 201, 3) := by decide +kernel
theorem dX11_check_45 : decode cX11_check 45 = .ok (.iconst 2, 1) := by decide +kernel
theorem dX11_check_46 : decode cX11_check 46 = .ok (.if_icmp .eq 23, 3) := by decide +kernel
theorem dX11_check_49 : decode cX11_check 49 = .ok (.aload_n 0, 1) := by decide +kernel
theorem dX11_check_50 : decode cX11_check 50 = .ok (.getfield 30, 3) := by decide +kernel
theorem dX11_check_53 : decode cX11_check 53 = .ok (.aload 4, 2) := by decide +kernel
theorem dX11_check_55 : decode cX11_check 55 = .ok (.aload 5, 2) := by decide +kernel
theorem dX11_check_57 : decode cX11_check 57 = .ok (.invokevirtual 233, 3) := by decide +kernel
theorem dX11_check_60 : decode cX11_check 60 = .ok (.ifCond .eq 7, 3) := by decide +kernel
theorem dX11_check_63 : decode cX11_check 63 = .ok (.iconst 1, 1) := by decide +kernel
theorem dX11_check_64 : decode cX11_check 64 = .ok (.goto 4, 3) := by decide +kernel
theorem dX11_check_67 : decode cX11_check 67 = .ok (.iconst 0, 1) := by decide +kernel
theorem dX11_check_68 : decode cX11_check 68 = .ok (.ireturn, 1) := by decide +kernel
theorem dX11_check_69 : decode cX11_check 69 = .ok (.aload_n 0, 1) := by decide +kernel
theorem dX11_check_70 : decode cX11_check 70 = .ok (.getfield 37, 3) := by decide +kernel
theorem dX11_check_73 : decode cX11_check 73 = .ok (.iload_n 3, 1) := by decide +kernel
theorem dX11_check_74 : decode cX11_check 74 = .ok (.invokevirtual 229, 3) := by decide +kernel
theorem dX11_check_77 : decode cX11_check 77 = .ok (.astore 6, 2) := by decide +kernel
theorem dX11_check_79 : decode cX11_check 79 = .ok (.aload 6, 2) := by decide +kernel
theorem dX11_check_81 : decode cX11_check 81 = .ok (.ifnonnull 5, 3) := by decide +kernel
theorem dX11_check_84 : decode cX11_check 84 = .ok (.iconst (-1), 1) := by decide +kernel
theorem dX11_check_85 : decode cX11_check 85 = .ok (.ireturn, 1) := by decide +kernel
theorem dX11_check_86 : decode cX11_check 86 = .ok (.aload_n 0, 1) := by decide +kernel
theorem dX11_check_87 : decode cX11_check 87 = .ok (.getfield 30, 3) := by decide +kernel
theorem dX11_check_90 : decode cX11_check 90 = .ok (.aload 4, 2) := by decide +kernel
theorem dX11_check_92 : decode cX11_check 92 = .ok (.aload 5, 2) := by decide +kernel
theorem dX11_check_94 : decode cX11_check 94 = .ok (.aload 6, 2) := by decide +kernel
theorem dX11_check_96 : decode cX11_check 96 = .ok (.invokevirtual 237, 3) := by decide +kernel
theorem dX11_check_99 : decode cX11_check 99 = .ok (.ifCond .eq 7, 3) := by decide +kernel
theorem dX11_check_102 : decode cX11_check 102 = .ok (.iconst 1, 1) := by decide +kernel
theorem dX11_check_103 : decode cX11_check 103 = .ok (.goto 4, 3) := by decide +kernel
theorem dX11_check_106 : decode cX11_check 106 = .ok (.iconst 0, 1) := by decide +kernel
theorem dX11_check_107 : decode cX11_check 107 = .ok (.ireturn, 1) := by decide +kernel
theorem dX11_take_0 : decode cX11_take 0 = .ok (.aload_n 0, 1) := by decide +kernel
theorem dX11_take_1 : decode cX11_take 1 = .ok (.getfield 37, 3) := by decide +kernel
theorem dX11_take_4 : decode cX11_take 4 = .ok (.iload_n 2, 1) := by decide +kernel
theorem dX11_take_5 : decode cX11_take 5 = .ok (.invokevirtual 69, 3) := by decide +kernel
theorem dX11_take_8 : decode cX11_take 8 = .ok (.astore 4, 2) := by decide +kernel
theorem dX11_take_10 : decode cX11_take 10 = .ok (.iload_n 1, 1) := by decide +kernel
theorem dX11_take_11 : decode cX11_take 11 = .ok (.ifCond .lt 23, 3) := by decide +kernel
theorem dX11_take_14 : decode cX11_take 14 = .ok (.iload_n 1, 1) := by decide +kernel
theorem dX11_take_15 : decode cX11_take 15 = .ok (.bipush 12, 2) := by decide +kernel
theorem dX11_take_17 : decode cX11_take 17 = .ok (.if_icmp .ge 17, 3) := by decide +kernel
theorem dX11_take_20 : decode cX11_take 20 = .ok (.aload 4, 2) := by decide +kernel
theorem dX11_take_22 : decode cX11_take 22 = .ok (.ifnull 12, 3) := by decide +kernel
theorem dX11_take_25 : decode cX11_take 25 = .ok (.aload 4, 2) := by decide +kernel
theorem dX11_take_27 : decode cX11_take 27 = .ok (.iload_n 3, 1) := by decide +kernel
theorem dX11_take_28 : decode cX11_take 28 = .ok (.invokevirtual 80, 3) := by decide +kernel
theorem dX11_take_31 : decode cX11_take 31 = .ok (.ifCond .ne 5, 3) := by decide +kernel
theorem dX11_take_34 : decode cX11_take 34 = .ok (.iconst (-1), 1) := by decide +kernel
theorem dX11_take_35 : decode cX11_take 35 = .ok (.ireturn, 1) := by decide +kernel
theorem dX11_take_36 : decode cX11_take 36 = .ok (.aload_n 0, 1) := by decide +kernel
theorem dX11_take_37 : decode cX11_take 37 = .ok (.getfield 30, 3) := by decide +kernel
theorem dX11_take_40 : decode cX11_take 40 = .ok (.aload 4, 2) := by decide +kernel
theorem dX11_take_42 : decode cX11_take 42 = .ok (.iload_n 2, 1) := by decide +kernel
theorem dX11_take_43 : decode cX11_take 43 = .ok (.iload_n 3, 1) := by decide +kernel
theorem dX11_take_44 : decode cX11_take 44 = .ok (.aload_n 0, 1) := by decide +kernel
theorem dX11_take_45 : decode cX11_take 45 = .ok (.getfield 44, 3) := by decide +kernel
theorem dX11_take_48 : decode cX11_take 48 = .ok (.invokevirtual 152, 3) := by decide +kernel
theorem dX11_take_51 : decode cX11_take 51 = .ok (.aload_n 0, 1) := by decide +kernel
theorem dX11_take_52 : decode cX11_take 52 = .ok (.getfield 37, 3) := by decide +kernel
theorem dX11_take_55 : decode cX11_take 55 = .ok (.iload_n 1, 1) := by decide +kernel
theorem dX11_take_56 : decode cX11_take 56 = .ok (.invokevirtual 229, 3) := by decide +kernel
theorem dX11_take_59 : decode cX11_take 59 = .ok (.astore 5, 2) := by decide +kernel
theorem dX11_take_61 : decode cX11_take 61 = .ok (.aload 5, 2) := by decide +kernel
theorem dX11_take_63 : decode cX11_take 63 = .ok (.ifnull 18, 3) := by decide +kernel
theorem dX11_take_66 : decode cX11_take 66 = .ok (.aload 5, 2) := by decide +kernel
theorem dX11_take_68 : decode cX11_take 68 = .ok (.getfield 241, 3) := by decide +kernel
theorem dX11_take_71 : decode cX11_take 71 = .ok (.aload_n 0, 1) := by decide +kernel
theorem dX11_take_72 : decode cX11_take 72 = .ok (.getfield 44, 3) := by decide +kernel
theorem dX11_take_75 : decode cX11_take 75 = .ok (.getfield 241, 3) := by decide +kernel
theorem dX11_take_78 : decode cX11_take 78 = .ok (.if_icmp .eq 21, 3) := by decide +kernel
theorem dX11_take_81 : decode cX11_take 81 = .ok (.aload_n 0, 1) := by decide +kernel
theorem dX11_take_82 : decode cX11_take 82 = .ok (.getfield 37, 3) := by decide +kernel
theorem dX11_take_85 : decode cX11_take 85 = .ok (.getfield 242, 3) := by decide +kernel
theorem dX11_take_88 : decode cX11_take 88 = .ok (.iload_n 1, 1) := by decide +kernel
theorem dX11_take_89 : decode cX11_take 89 = .ok (.aaload, 1) := by decide +kernel
theorem dX11_take_90 : decode cX11_take 90 = .ok (.aload_n 0, 1) := by decide +kernel
theorem dX11_take_91 : decode cX11_take 91 = .ok (.getfield 44, 3) := by decide +kernel
theorem dX11_take_94 : decode cX11_take 94 = .ok (.invokevirtual 246, 3) := by decide +kernel
theorem dX11_take_97 : decode cX11_take 97 = .ok (.iconst 1, 1) := by decide +kernel
theorem dX11_take_98 : decode cX11_take 98 = .ok (.ireturn, 1) := by decide +kernel
theorem dX11_take_99 : decode cX11_take 99 = .ok (.aload_n 0, 1) := by decide +kernel
theorem dX11_take_100 : decode cX11_take 100 = .ok (.aload 5, 2) := by decide +kernel
theorem dX11_take_102 : decode cX11_take 102 = .ok (.aload_n 0, 1) := by decide +kernel
theorem dX11_take_103 : decode cX11_take 103 = .ok (.getfield 44, 3) := by decide +kernel
theorem dX11_take_106 : decode cX11_take 106 = .ok (.invokevirtual 250, 3) := by decide +kernel
theorem dX11_take_109 : decode cX11_take 109 = .ok (.ifCond .ne 31, 3) := by decide +kernel
theorem dX11_take_112 : decode cX11_take 112 = .ok (.aload_n 0, 1) := by decide +kernel
theorem dX11_take_113 : decode cX11_take 113 = .ok (.getfield 37, 3) := by decide +kernel
theorem dX11_take_116 : decode cX11_take 116 = .ok (.aload 5, 2) := by decide +kernel
theorem dX11_take_118 : decode cX11_take 118 = .ok (.aload_n 0, 1) := by decide +kernel
theorem dX11_take_119 : decode cX11_take 119 = .ok (.getfield 44, 3) := by decide +kernel
theorem dX11_take_122 : decode cX11_take 122 = .ok (.invokevirtual 254, 3) := by decide +kernel
theorem dX11_take_125 : decode cX11_take 125 = .ok (.aload_n 0, 1) := by decide +kernel
theorem dX11_take_126 : decode cX11_take 126 = .ok (.getfield 37, 3) := by decide +kernel
theorem dX11_take_129 : decode cX11_take 129 = .ok (.getfield 258, 3) := by decide +kernel
theorem dX11_take_132 : decode cX11_take 132 = .ok (.iload_n 1, 1) := by decide +kernel
theorem dX11_take_133 : decode cX11_take 133 = .ok (.dup2, 1) := by decide +kernel
theorem dX11_take_134 : decode cX11_take 134 = .ok (.iaload, 1) := by decide +kernel
theorem dX11_take_135 : decode cX11_take 135 = .ok (.iconst 1, 1) := by decide +kernel
theorem dX11_take_136 : decode cX11_take 136 = .ok (.iadd, 1) := by decide +kernel
theorem dX11_take_137 : decode cX11_take 137 = .ok (.iastore, 1) := by decide +kernel
theorem dX11_take_138 : decode cX11_take 138 = .ok (.iconst 0, 1) := by decide +kernel
theorem dX11_take_139 : decode cX11_take 139 = .ok (.ireturn, 1) := by decide +kernel
theorem dX11_take_140 : decode cX11_take 140 = .ok (.aload_n 0, 1) := by decide +kernel
theorem dX11_take_141 : decode cX11_take 141 = .ok (.getfield 44, 3) := by decide +kernel
theorem dX11_take_144 : decode cX11_take 144 = .ok (.getfield 261, 3) := by decide +kernel
theorem dX11_take_147 : decode cX11_take 147 = .ok (.aload 5, 2) := by decide +kernel
theorem dX11_take_149 : decode cX11_take 149 = .ok (.getfield 261, 3) := by decide +kernel
theorem dX11_take_152 : decode cX11_take 152 = .ok (.if_icmp .le 12, 3) := by decide +kernel
theorem dX11_take_155 : decode cX11_take 155 = .ok (.aload 5, 2) := by decide +kernel
theorem dX11_take_157 : decode cX11_take 157 = .ok (.aload_n 0, 1) := by decide +kernel
theorem dX11_take_158 : decode cX11_take 158 = .ok (.getfield 44, 3) := by decide +kernel
theorem dX11_take_161 : decode cX11_take 161 = .ok (.invokevirtual 246, 3) := by decide +kernel
theorem dX11_take_164 : decode cX11_take 164 = .ok (.iconst 1, 1) := by decide +kernel
theorem dX11_take_165 : decode cX11_take 165 = .ok (.ireturn, 1) := by decide +kernel
theorem dX11_talk_0 : decode cX11_talk 0 = .ok (.aload_n 0, 1) := by decide +kernel
theorem dX11_talk_1 : decode cX11_talk 1 = .ok (.getfield 37, 3) := by decide +kernel
theorem dX11_talk_4 : decode cX11_talk 4 = .ok (.iload_n 1, 1) := by decide +kernel
theorem dX11_talk_5 : decode cX11_talk 5 = .ok (.invokevirtual 229, 3) := by decide +kernel
theorem dX11_talk_8 : decode cX11_talk 8 = .ok (.astore_n 3, 1) := by decide +kernel
theorem dX11_talk_9 : decode cX11_talk 9 = .ok (.aload_n 0, 1) := by decide +kernel
theorem dX11_talk_10 : decode cX11_talk 10 = .ok (.getfield 37, 3) := by decide +kernel
theorem dX11_talk_13 : decode cX11_talk 13 = .ok (.iload_n 2, 1) := by decide +kernel
theorem dX11_talk_14 : decode cX11_talk 14 = .ok (.invokevirtual 229, 3) := by decide +kernel
theorem dX11_talk_17 : decode cX11_talk 17 = .ok (.astore 4, 2) := by decide +kernel
theorem dX11_talk_19 : decode cX11_talk 19 = .ok (.iload_n 1, 1) := by decide +kernel
theorem dX11_talk_20 : decode cX11_talk 20 = .ok (.iload_n 2, 1) := by decide +kernel
theorem dX11_talk_21 : decode cX11_talk 21 = .ok (.if_icmp .eq 24, 3) := by decide +kernel
theorem dX11_talk_24 : decode cX11_talk 24 = .ok (.aload_n 3, 1) := by decide +kernel
theorem dX11_talk_25 : decode cX11_talk 25 = .ok (.ifnull 20, 3) := by decide +kernel
theorem dX11_talk_28 : decode cX11_talk 28 = .ok (.aload 4, 2) := by decide +kernel
theorem dX11_talk_30 : decode cX11_talk 30 = .ok (.ifnull 15, 3) := by decide +kernel
theorem dX11_talk_33 : decode cX11_talk 33 = .ok (.aload_n 3, 1) := by decide +kernel
theorem dX11_talk_34 : decode cX11_talk 34 = .ok (.getfield 241, 3) := by decide +kernel
theorem dX11_talk_37 : decode cX11_talk 37 = .ok (.aload 4, 2) := by decide +kernel
theorem dX11_talk_39 : decode cX11_talk 39 = .ok (.getfield 241, 3) := by decide +kernel
theorem dX11_talk_42 : decode cX11_talk 42 = .ok (.if_icmp .eq 5, 3) := by decide +kernel
theorem dX11_talk_45 : decode cX11_talk 45 = .ok (.iconst (-1), 1) := by decide +kernel
theorem dX11_talk_46 : decode cX11_talk 46 = .ok (.ireturn, 1) := by decide +kernel
theorem dX11_talk_47 : decode cX11_talk 47 = .ok (.aload_n 0, 1) := by decide +kernel
theorem dX11_talk_48 : decode cX11_talk 48 = .ok (.aload_n 3, 1) := by decide +kernel
theorem dX11_talk_49 : decode cX11_talk 49 = .ok (.aload 4, 2) := by decide +kernel
theorem dX11_talk_51 : decode cX11_talk 51 = .ok (.invokevirtual 250, 3) := by decide +kernel
theorem dX11_talk_54 : decode cX11_talk 54 = .ok (.ifCond .ne 41, 3) := by decide +kernel
theorem dX11_talk_57 : decode cX11_talk 57 = .ok (.aload_n 0, 1) := by decide +kernel
theorem dX11_talk_58 : decode cX11_talk 58 = .ok (.getfield 37, 3) := by decide +kernel
theorem dX11_talk_61 : decode cX11_talk 61 = .ok (.aload_n 3, 1) := by decide +kernel
theorem dX11_talk_62 : decode cX11_talk 62 = .ok (.aload 4, 2) := by decide +kernel
theorem dX11_talk_64 : decode cX11_talk 64 = .ok (.invokevirtual 254, 3) := by decide +kernel
theorem dX11_talk_67 : decode cX11_talk 67 = .ok (.aload_n 0, 1) := by decide +kernel
theorem dX11_talk_68 : decode cX11_talk 68 = .ok (.getfield 37, 3) := by decide +kernel
theorem dX11_talk_71 : decode cX11_talk 71 = .ok (.getfield 258, 3) := by decide +kernel
theorem dX11_talk_74 : decode cX11_talk 74 = .ok (.iload_n 1, 1) := by decide +kernel
theorem dX11_talk_75 : decode cX11_talk 75 = .ok (.dup2, 1) := by decide +kernel
theorem dX11_talk_76 : decode cX11_talk 76 = .ok (.iaload, 1) := by decide +kernel
theorem dX11_talk_77 : decode cX11_talk 77 = .ok (.iconst 1, 1) := by decide +kernel
theorem dX11_talk_78 : decode cX11_talk 78 = .ok (.iadd, 1) := by decide +kernel
theorem dX11_talk_79 : decode cX11_talk 79 = .ok (.iastore, 1) := by decide +kernel
theorem dX11_talk_80 : decode cX11_talk 80 = .ok (.aload_n 0, 1) := by decide +kernel
theorem dX11_talk_81 : decode cX11_talk 81 = .ok (.getfield 37, 3) := by decide +kernel
theorem dX11_talk_84 : decode cX11_talk 84 = .ok (.getfield 258, 3) := by decide +kernel
theorem dX11_talk_87 : decode cX11_talk 87 = .ok (.iload_n 2, 1) := by decide +kernel
theorem dX11_talk_88 : decode cX11_talk 88 = .ok (.dup2, 1) := by decide +kernel
theorem dX11_talk_89 : decode cX11_talk 89 = .ok (.iaload, 1) := by decide +kernel
theorem dX11_talk_90 : decode cX11_talk 90 = .ok (.iconst 1, 1) := by decide +kernel
theorem dX11_talk_91 : decode cX11_talk 91 = .ok (.iadd, 1) := by decide +kernel
theorem dX11_talk_92 : decode cX11_talk 92 = .ok (.iastore, 1) := by decide +kernel
theorem dX11_talk_93 : decode cX11_talk 93 = .ok (.iconst 0, 1) := by decide +kernel
theorem dX11_talk_94 : decode cX11_talk 94 = .ok (.ireturn, 1) := by decide +kernel
theorem dX11_talk_95 : decode cX11_talk 95 = .ok (.aload_n 3, 1) := by decide +kernel
theorem dX11_talk_96 : decode cX11_talk 96 = .ok (.getfield 261, 3) := by decide +kernel
theorem dX11_talk_99 : decode cX11_talk 99 = .ok (.aload 4, 2) := by decide +kernel
theorem dX11_talk_101 : decode cX11_talk 101 = .ok (.getfield 261, 3) := by decide +kernel
theorem dX11_talk_104 : decode cX11_talk 104 = .ok (.if_icmp .le 12, 3) := by decide +kernel
theorem dX11_talk_107 : decode cX11_talk 107 = .ok (.aload 4, 2) := by decide +kernel
theorem dX11_talk_109 : decode cX11_talk 109 = .ok (.aload_n 3, 1) := by decide +kernel
theorem dX11_talk_110 : decode cX11_talk 110 = .ok (.invokevirtual 246, 3) := by decide +kernel
theorem dX11_talk_113 : decode cX11_talk 113 = .ok (.goto 21, 3) := by decide +kernel
theorem dX11_talk_116 : decode cX11_talk 116 = .ok (.aload 4, 2) := by decide +kernel
theorem dX11_talk_118 : decode cX11_talk 118 = .ok (.getfield 261, 3) := by decide +kernel
theorem dX11_talk_121 : decode cX11_talk 121 = .ok (.aload_n 3, 1) := by decide +kernel
theorem dX11_talk_122 : decode cX11_talk 122 = .ok (.getfield 261, 3) := by decide +kernel
theorem dX11_talk_125 : decode cX11_talk 125 = .ok (.if_icmp .le 9, 3) := by decide +kernel
theorem dX11_talk_128 : decode cX11_talk 128 = .ok (.aload_n 3, 1) := by decide +kernel
theorem dX11_talk_129 : decode cX11_talk 129 = .ok (.aload 4, 2) := by decide +kernel
theorem dX11_talk_131 : decode cX11_talk 131 = .ok (.invokevirtual 246, 3) := by decide +kernel
theorem dX11_talk_134 : decode cX11_talk 134 = .ok (.iconst 1, 1) := by decide +kernel
theorem dX11_talk_135 : decode cX11_talk 135 = .ok (.ireturn, 1) := by decide +kernel
theorem dX11_reader_0 : decode cX11_reader 0 = .ok (.iload_n 1, 1) := by decide +kernel
theorem dX11_reader_1 : decode cX11_reader 1 = .ok (.ifCond .lt 9, 3) := by decide +kernel
theorem dX11_reader_4 : decode cX11_reader 4 = .ok (.iload_n 1, 1) := by decide +kernel
theorem dX11_reader_5 : decode cX11_reader 5 = .ok (.bipush 12, 2) := by decide +kernel
theorem dX11_reader_7 : decode cX11_reader 7 = .ok (.if_icmp .lt 5, 3) := by decide +kernel
theorem dX11_reader_10 : decode cX11_reader 10 = .ok (.iconst (-1), 1) := by decide +kernel
theorem dX11_reader_11 : decode cX11_reader 11 = .ok (.ireturn, 1) := by decide +kernel
theorem dX11_reader_12 : decode cX11_reader 12 = .ok (.iload_n 2, 1) := by decide +kernel
theorem dX11_reader_13 : decode cX11_reader 13 = .ok (.iconst 3, 1) := by decide +kernel
theorem dX11_reader_14 : decode cX11_reader 14 = .ok (.if_icmp .ne 13, 3) := by decide +kernel
theorem dX11_reader_17 : decode cX11_reader 17 = .ok (.aload_n 0, 1) := by decide +kernel
theorem dX11_reader_18 : decode cX11_reader 18 = .ok (.getfield 37, 3) := by decide +kernel
theorem dX11_reader_21 : decode cX11_reader 21 = .ok (.getfield 258, 3) := by decide +kernel
theorem dX11_reader_24 : decode cX11_reader 24 = .ok (.iload_n 1, 1) := by decide +kernel
theorem dX11_reader_25 : decode cX11_reader 25 = .ok (.iaload, 1) := by decide +kernel
theorem dX11_reader_26 : decode cX11_reader 26 = .ok (.ireturn, 1) := by decide +kernel
theorem dX11_reader_27 : decode cX11_reader 27 = .ok (.aload_n 0, 1) := by decide +kernel
theorem dX11_reader_28 : decode cX11_reader 28 = .ok (.getfield 37, 3) := by decide +kernel
theorem dX11_reader_31 : decode cX11_reader 31 = .ok (.iload_n 1, 1) := by decide +kernel
theorem dX11_reader_32 : decode cX11_reader 32 = .ok (.invokevirtual 229, 3) := by decide +kernel
theorem dX11_reader_35 : decode cX11_reader 35 = .ok (.astore_n 3, 1) := by decide +kernel
theorem dX11_reader_36 : decode cX11_reader 36 = .ok (.aload_n 3, 1) := by decide +kernel
theorem dX11_reader_37 : decode cX11_reader 37 = .ok (.ifnonnull 5, 3) := by decide +kernel
theorem dX11_reader_40 : decode cX11_reader 40 = .ok (.iconst (-1), 1) := by decide +kernel
theorem dX11_reader_41 : decode cX11_reader 41 = .ok (.ireturn, 1) := by decide +kernel
theorem dX11_reader_42 : decode cX11_reader 42 = .ok (.iload_n 2, 1) := by decide +kernel
theorem dX11_reader_43 : decode cX11_reader 43 = .ok (.tableswitch 40 0 2 #[25, 30, 35], 25) := by decide +kernel
theorem dX11_reader_68 : decode cX11_reader 68 = .ok (.aload_n 3, 1) := by decide +kernel
theorem dX11_reader_69 : decode cX11_reader 69 = .ok (.getfield 261, 3) := by decide +kernel
theorem dX11_reader_72 : decode cX11_reader 72 = .ok (.ireturn, 1) := by decide +kernel
theorem dX11_reader_73 : decode cX11_reader 73 = .ok (.aload_n 3, 1) := by decide +kernel
theorem dX11_reader_74 : decode cX11_reader 74 = .ok (.getfield 262, 3) := by decide +kernel
theorem dX11_reader_77 : decode cX11_reader 77 = .ok (.ireturn, 1) := by decide +kernel
theorem dX11_reader_78 : decode cX11_reader 78 = .ok (.aload_n 3, 1) := by decide +kernel
theorem dX11_reader_79 : decode cX11_reader 79 = .ok (.getfield 241, 3) := by decide +kernel
theorem dX11_reader_82 : decode cX11_reader 82 = .ok (.ireturn, 1) := by decide +kernel
theorem dX11_reader_83 : decode cX11_reader 83 = .ok (.iconst (-1), 1) := by decide +kernel
theorem dX11_reader_84 : decode cX11_reader 84 = .ok (.ireturn, 1) := by decide +kernel
theorem dX11_blame_0 : decode cX11_blame 0 = .ok (.aload_n 0, 1) := by decide +kernel
theorem dX11_blame_1 : decode cX11_blame 1 = .ok (.getfield 37, 3) := by decide +kernel
theorem dX11_blame_4 : decode cX11_blame 4 = .ok (.iload_n 1, 1) := by decide +kernel
theorem dX11_blame_5 : decode cX11_blame 5 = .ok (.invokevirtual 265, 3) := by decide +kernel
theorem dX11_blame_8 : decode cX11_blame 8 = .ok (.astore_n 3, 1) := by decide +kernel
theorem dX11_blame_9 : decode cX11_blame 9 = .ok (.aload_n 0, 1) := by decide +kernel
theorem dX11_blame_10 : decode cX11_blame 10 = .ok (.getfield 37, 3) := by decide +kernel
theorem dX11_blame_13 : decode cX11_blame 13 = .ok (.iload_n 1, 1) := by decide +kernel
theorem dX11_blame_14 : decode cX11_blame 14 = .ok (.invokevirtual 268, 3) := by decide +kernel
theorem dX11_blame_17 : decode cX11_blame 17 = .ok (.astore 4, 2) := by decide +kernel
theorem dX11_blame_19 : decode cX11_blame 19 = .ok (.aload_n 3, 1) := by decide +kernel
theorem dX11_blame_20 : decode cX11_blame 20 = .ok (.ifnull 8, 3) := by decide +kernel
theorem dX11_blame_23 : decode cX11_blame 23 = .ok (.aload 4, 2) := by decide +kernel
theorem dX11_blame_25 : decode cX11_blame 25 = .ok (.ifnonnull 5, 3) := by decide +kernel
theorem dX11_blame_28 : decode cX11_blame 28 = .ok (.iconst (-1), 1) := by decide +kernel
theorem dX11_blame_29 : decode cX11_blame 29 = .ok (.ireturn, 1) := by decide +kernel
theorem dX11_blame_30 : decode cX11_blame 30 = .ok (.iload_n 2, 1) := by decide +kernel
theorem dX11_blame_31 : decode cX11_blame 31 = .ok (.tableswitch 120 0 7 #[45, 50, 56, 61, 90, 97, 105, 112], 45) := by decide +kernel
theorem dX11_blame_76 : decode cX11_blame 76 = .ok (.aload_n 3, 1) := by decide +kernel
theorem dX11_blame_77 : decode cX11_blame 77 = .ok (.getfield 261, 3) := by decide +kernel
theorem dX11_blame_80 : decode cX11_blame 80 = .ok (.ireturn, 1) := by decide +kernel
theorem dX11_blame_81 : decode cX11_blame 81 = .ok (.aload 4, 2) := by decide +kernel
theorem dX11_blame_83 : decode cX11_blame 83 = .ok (.getfield 261, 3) := by decide +kernel
theorem dX11_blame_86 : decode cX11_blame 86 = .ok (.ireturn, 1) := by decide +kernel
theorem dX11_blame_87 : decode cX11_blame 87 = .ok (.aload_n 3, 1) := by decide +kernel
theorem dX11_blame_88 : decode cX11_blame 88 = .ok (.getfield 241, 3) := by decide +kernel
theorem dX11_blame_91 : decode cX11_blame 91 = .ok (.ireturn, 1) := by decide +kernel
theorem dX11_blame_92 : decode cX11_blame 92 = .ok (.aload_n 0, 1) := by decide +kernel
theorem dX11_blame_93 : decode cX11_blame 93 = .ok (.getfield 30, 3) := by decide +kernel
theorem dX11_blame_96 : decode cX11_blame 96 = .ok (.aload_n 3, 1) := by decide +kernel
theorem dX11_blame_97 : decode cX11_blame 97 = .ok (.invokevirtual 271, 3) := by decide +kernel
theorem dX11_blame_100 : decode cX11_blame 100 = .ok (.ifCond .eq 19, 3) := by decide +kernel
theorem dX11_blame_103 : decode cX11_blame 103 = .ok (.aload_n 0, 1) := by decide +kernel
theorem dX11_blame_104 : decode cX11_blame 104 = .ok (.getfield 30, 3) := by decide +kernel
theorem dX11_blame_107 : decode cX11_blame 107 = .ok (.aload 4, 2) := by decide +kernel
theorem dX11_blame_109 : decode cX11_blame 109 = .ok (.invokevirtual 271, 3) := by decide +kernel
theorem dX11_blame_112 : decode cX11_blame 112 = .ok (.ifCond .eq 7, 3) := by decide +kernel
theorem dX11_blame_115 : decode cX11_blame 115 = .ok (.iconst 1, 1) := by decide +kernel
theorem dX11_blame_116 : decode cX11_blame 116 = .ok (.goto 4, 3) := by decide +kernel
theorem dX11_blame_119 : decode cX11_blame 119 = .ok (.iconst 0, 1) := by decide +kernel
theorem dX11_blame_120 : decode cX11_blame 120 = .ok (.ireturn, 1) := by decide +kernel
theorem dX11_blame_121 : decode cX11_blame 121 = .ok (.aload_n 3, 1) := by decide +kernel
theorem dX11_blame_122 : decode cX11_blame 122 = .ok (.getfield 139, 3) := by decide +kernel
theorem dX11_blame_125 : decode cX11_blame 125 = .ok (.iconst 0, 1) := by decide +kernel
theorem dX11_blame_126 : decode cX11_blame 126 = .ok (.iaload, 1) := by decide +kernel
theorem dX11_blame_127 : decode cX11_blame 127 = .ok (.ireturn, 1) := by decide +kernel
theorem dX11_blame_128 : decode cX11_blame 128 = .ok (.aload 4, 2) := by decide +kernel
theorem dX11_blame_130 : decode cX11_blame 130 = .ok (.getfield 139, 3) := by decide +kernel
theorem dX11_blame_133 : decode cX11_blame 133 = .ok (.iconst 0, 1) := by decide +kernel
theorem dX11_blame_134 : decode cX11_blame 134 = .ok (.iaload, 1) := by decide +kernel
theorem dX11_blame_135 : decode cX11_blame 135 = .ok (.ireturn, 1) := by decide +kernel
theorem dX11_blame_136 : decode cX11_blame 136 = .ok (.aload_n 3, 1) := by decide +kernel
theorem dX11_blame_137 : decode cX11_blame 137 = .ok (.getfield 146, 3) := by decide +kernel
theorem dX11_blame_140 : decode cX11_blame 140 = .ok (.iconst 0, 1) := by decide +kernel
theorem dX11_blame_141 : decode cX11_blame 141 = .ok (.iaload, 1) := by decide +kernel
theorem dX11_blame_142 : decode cX11_blame 142 = .ok (.ireturn, 1) := by decide +kernel
theorem dX11_blame_143 : decode cX11_blame 143 = .ok (.aload 4, 2) := by decide +kernel
theorem dX11_blame_145 : decode cX11_blame 145 = .ok (.getfield 146, 3) := by decide +kernel
theorem dX11_blame_148 : decode cX11_blame 148 = .ok (.iconst 0, 1) := by decide +kernel
theorem dX11_blame_149 : decode cX11_blame 149 = .ok (.iaload, 1) := by decide +kernel
theorem dX11_blame_150 : decode cX11_blame 150 = .ok (.ireturn, 1) := by decide +kernel
theorem dX11_blame_151 : decode cX11_blame 151 = .ok (.iconst (-1), 1) := by decide +kernel
theorem dX11_blame_152 : decode cX11_blame 152 = .ok (.ireturn, 1) := by decide +kernel
theorem dX11_smear_0 : decode cX11_smear 0 = .ok (.aload_n 0, 1) := by decide +kernel
theorem dX11_smear_1 : decode cX11_smear 1 = .ok (.getfield 37, 3) := by decide +kernel
theorem dX11_smear_4 : decode cX11_smear 4 = .ok (.iload_n 1, 1) := by decide +kernel
theorem dX11_smear_5 : decode cX11_smear 5 = .ok (.invokevirtual 268, 3) := by decide +kernel
theorem dX11_smear_8 : decode cX11_smear 8 = .ok (.astore 4, 2) := by decide +kernel
theorem dX11_smear_10 : decode cX11_smear 10 = .ok (.aload 4, 2) := by decide +kernel
theorem dX11_smear_12 : decode cX11_smear 12 = .ok (.ifnull 10, 3) := by decide +kernel
theorem dX11_smear_15 : decode cX11_smear 15 = .ok (.iload_n 2, 1) := by decide +kernel
theorem dX11_smear_16 : decode cX11_smear 16 = .ok (.invokestatic 136, 3) := by decide +kernel
theorem dX11_smear_19 : decode cX11_smear 19 = .ok (.ifCond .ne 5, 3) := by decide +kernel
theorem dX11_smear_22 : decode cX11_smear 22 = .ok (.iconst 0, 1) := by decide +kernel
theorem dX11_smear_23 : decode cX11_smear 23 = .ok (.ireturn, 1) := by decide +kernel
theorem dX11_smear_24 : decode cX11_smear 24 = .ok (.aload 4, 2) := by decide +kernel
theorem dX11_smear_26 : decode cX11_smear 26 = .ok (.getfield 156, 3) := by decide +kernel
theorem dX11_smear_29 : decode cX11_smear 29 = .ok (.iload_n 2, 1) := by decide +kernel
theorem dX11_smear_30 : decode cX11_smear 30 = .ok (.dup2, 1) := by decide +kernel
theorem dX11_smear_31 : decode cX11_smear 31 = .ok (.iaload, 1) := by decide +kernel
theorem dX11_smear_32 : decode cX11_smear 32 = .ok (.iload_n 3, 1) := by decide +kernel
theorem dX11_smear_33 : decode cX11_smear 33 = .ok (.ixor, 1) := by decide +kernel
theorem dX11_smear_34 : decode cX11_smear 34 = .ok (.iastore, 1) := by decide +kernel
theorem dX11_smear_35 : decode cX11_smear 35 = .ok (.iconst 1, 1) := by decide +kernel
theorem dX11_smear_36 : decode cX11_smear 36 = .ok (.ireturn, 1) := by decide +kernel
theorem dX11_watcher_0 : decode cX11_watcher 0 = .ok (.iload_n 1, 1) := by decide +kernel
theorem dX11_watcher_1 : decode cX11_watcher 1 = .ok (.ifCond .lt 20, 3) := by decide +kernel
theorem dX11_watcher_4 : decode cX11_watcher 4 = .ok (.iload_n 1, 1) := by decide +kernel
theorem dX11_watcher_5 : decode cX11_watcher 5 = .ok (.bipush 8, 2) := by decide +kernel
theorem dX11_watcher_7 : decode cX11_watcher 7 = .ok (.if_icmp .ge 14, 3) := by decide +kernel
theorem dX11_watcher_10 : decode cX11_watcher 10 = .ok (.aload_n 0, 1) := by decide +kernel
theorem dX11_watcher_11 : decode cX11_watcher 11 = .ok (.getfield 37, 3) := by decide +kernel
theorem dX11_watcher_14 : decode cX11_watcher 14 = .ok (.iload_n 2, 1) := by decide +kernel
theorem dX11_watcher_15 : decode cX11_watcher 15 = .ok (.invokevirtual 69, 3) := by decide +kernel
theorem dX11_watcher_18 : decode cX11_watcher 18 = .ok (.ifnonnull 5, 3) := by decide +kernel
theorem dX11_watcher_21 : decode cX11_watcher 21 = .ok (.iconst 0, 1) := by decide +kernel
theorem dX11_watcher_22 : decode cX11_watcher 22 = .ok (.ireturn, 1) := by decide +kernel
theorem dX11_watcher_23 : decode cX11_watcher 23 = .ok (.aload_n 0, 1) := by decide +kernel
theorem dX11_watcher_24 : decode cX11_watcher 24 = .ok (.getfield 37, 3) := by decide +kernel
theorem dX11_watcher_27 : decode cX11_watcher 27 = .ok (.getfield 275, 3) := by decide +kernel
theorem dX11_watcher_30 : decode cX11_watcher 30 = .ok (.iload_n 1, 1) := by decide +kernel
theorem dX11_watcher_31 : decode cX11_watcher 31 = .ok (.aaload, 1) := by decide +kernel
theorem dX11_watcher_32 : decode cX11_watcher 32 = .ok (.iload_n 2, 1) := by decide +kernel
theorem dX11_watcher_33 : decode cX11_watcher 33 = .ok (.iload_n 3, 1) := by decide +kernel
theorem dX11_watcher_34 : decode cX11_watcher 34 = .ok (.iload 4, 2) := by decide +kernel
theorem dX11_watcher_36 : decode cX11_watcher 36 = .ok (.invokevirtual 279, 3) := by decide +kernel
theorem dX11_watcher_39 : decode cX11_watcher 39 = .ok (.iconst 1, 1) := by decide +kernel
theorem dX11_watcher_40 : decode cX11_watcher 40 = .ok (.ireturn, 1) := by decide +kernel
theorem dX11_watch_0 : decode cX11_watch 0 = .ok (.aload_n 0, 1) := by decide +kernel
theorem dX11_watch_1 : decode cX11_watch 1 = .ok (.getfield 37, 3) := by decide +kernel
theorem dX11_watch_4 : decode cX11_watch 4 = .ok (.iload_n 1, 1) := by decide +kernel
theorem dX11_watch_5 : decode cX11_watch 5 = .ok (.invokevirtual 282, 3) := by decide +kernel
theorem dX11_watch_8 : decode cX11_watch 8 = .ok (.astore_n 2, 1) := by decide +kernel
theorem dX11_watch_9 : decode cX11_watch 9 = .ok (.aload_n 2, 1) := by decide +kernel
theorem dX11_watch_10 : decode cX11_watch 10 = .ok (.ifnonnull 5, 3) := by decide +kernel
theorem dX11_watch_13 : decode cX11_watch 13 = .ok (.iconst (-1), 1) := by decide +kernel
theorem dX11_watch_14 : decode cX11_watch 14 = .ok (.ireturn, 1) := by decide +kernel
theorem dX11_watch_15 : decode cX11_watch 15 = .ok (.aload_n 0, 1) := by decide +kernel
theorem dX11_watch_16 : decode cX11_watch 16 = .ok (.getfield 37, 3) := by decide +kernel
theorem dX11_watch_19 : decode cX11_watch 19 = .ok (.aload_n 2, 1) := by decide +kernel
theorem dX11_watch_20 : decode cX11_watch 20 = .ok (.getfield 286, 3) := by decide +kernel
theorem dX11_watch_23 : decode cX11_watch 23 = .ok (.invokevirtual 69, 3) := by decide +kernel
theorem dX11_watch_26 : decode cX11_watch 26 = .ok (.astore_n 3, 1) := by decide +kernel
theorem dX11_watch_27 : decode cX11_watch 27 = .ok (.aload_n 3, 1) := by decide +kernel
theorem dX11_watch_28 : decode cX11_watch 28 = .ok (.ifnonnull 5, 3) := by decide +kernel
theorem dX11_watch_31 : decode cX11_watch 31 = .ok (.iconst (-1), 1) := by decide +kernel
theorem dX11_watch_32 : decode cX11_watch 32 = .ok (.ireturn, 1) := by decide +kernel
theorem dX11_watch_33 : decode cX11_watch 33 = .ok (.aload_n 2, 1) := by decide +kernel
theorem dX11_watch_34 : decode cX11_watch 34 = .ok (.aload_n 3, 1) := by decide +kernel
theorem dX11_watch_35 : decode cX11_watch 35 = .ok (.invokevirtual 287, 3) := by decide +kernel
theorem dX11_watch_38 : decode cX11_watch 38 = .ok (.aload_n 0, 1) := by decide +kernel
theorem dX11_watch_39 : decode cX11_watch 39 = .ok (.getfield 21, 3) := by decide +kernel
theorem dX11_watch_42 : decode cX11_watch 42 = .ok (.aload_n 3, 1) := by decide +kernel
theorem dX11_watch_43 : decode cX11_watch 43 = .ok (.aload_n 3, 1) := by decide +kernel
theorem dX11_watch_44 : decode cX11_watch 44 = .ok (.getfield 73, 3) := by decide +kernel
theorem dX11_watch_47 : decode cX11_watch 47 = .ok (.invokevirtual 110, 3) := by decide +kernel
theorem dX11_watch_50 : decode cX11_watch 50 = .ok (.aload_n 2, 1) := by decide +kernel
theorem dX11_watch_51 : decode cX11_watch 51 = .ok (.aload_n 0, 1) := by decide +kernel
theorem dX11_watch_52 : decode cX11_watch 52 = .ok (.getfield 21, 3) := by decide +kernel
theorem dX11_watch_55 : decode cX11_watch 55 = .ok (.aload_n 3, 1) := by decide +kernel
theorem dX11_watch_56 : decode cX11_watch 56 = .ok (.getfield 124, 3) := by decide +kernel
theorem dX11_watch_59 : decode cX11_watch 59 = .ok (.getfield 291, 3) := by decide +kernel
theorem dX11_watch_62 : decode cX11_watch 62 = .ok (.invokevirtual 292, 3) := by decide +kernel
theorem dX11_watch_65 : decode cX11_watch 65 = .ok (.ireturn, 1) := by decide +kernel
theorem dX11_watching_0 : decode cX11_watching 0 = .ok (.aload_n 0, 1) := by decide +kernel
theorem dX11_watching_1 : decode cX11_watching 1 = .ok (.getfield 37, 3) := by decide +kernel
theorem dX11_watching_4 : decode cX11_watching 4 = .ok (.iload_n 1, 1) := by decide +kernel
theorem dX11_watching_5 : decode cX11_watching 5 = .ok (.invokevirtual 282, 3) := by decide +kernel
theorem dX11_watching_8 : decode cX11_watching 8 = .ok (.astore_n 3, 1) := by decide +kernel
theorem dX11_watching_9 : decode cX11_watching 9 = .ok (.aload_n 3, 1) := by decide +kernel
theorem dX11_watching_10 : decode cX11_watching 10 = .ok (.ifnonnull 5, 3) := by decide +kernel
theorem dX11_watching_13 : decode cX11_watching 13 = .ok (.iconst (-1), 1) := by decide +kernel
theorem dX11_watching_14 : decode cX11_watching 14 = .ok (.ireturn, 1) := by decide +kernel
theorem dX11_watching_15 : decode cX11_watching 15 = .ok (.iload_n 2, 1) := by decide +kernel
theorem dX11_watching_16 : decode cX11_watching 16 = .ok (.tableswitch 43 0 2 #[28, 33, 38], 28) := by decide +kernel
theorem dX11_watching_44 : decode cX11_watching 44 = .ok (.aload_n 3, 1) := by decide +kernel
theorem dX11_watching_45 : decode cX11_watching 45 = .ok (.getfield 296, 3) := by decide +kernel
theorem dX11_watching_48 : decode cX11_watching 48 = .ok (.ireturn, 1) := by decide +kernel
theorem dX11_watching_49 : decode cX11_watching 49 = .ok (.aload_n 3, 1) := by decide +kernel
theorem dX11_watching_50 : decode cX11_watching 50 = .ok (.getfield 299, 3) := by decide +kernel
theorem dX11_watching_53 : decode cX11_watching 53 = .ok (.ireturn, 1) := by decide +kernel
theorem dX11_watching_54 : decode cX11_watching 54 = .ok (.aload_n 3, 1) := by decide +kernel
theorem dX11_watching_55 : decode cX11_watching 55 = .ok (.getfield 286, 3) := by decide +kernel
theorem dX11_watching_58 : decode cX11_watching 58 = .ok (.ireturn, 1) := by decide +kernel
theorem dX11_watching_59 : decode cX11_watching 59 = .ok (.iconst (-1), 1) := by decide +kernel
theorem dX11_watching_60 : decode cX11_watching 60 = .ok (.ireturn, 1) := by decide +kernel
theorem dX11_all_0 : decode cX11_all 0 = .ok (.iload_n 1, 1) := by decide +kernel
theorem dX11_all_1 : decode cX11_all 1 = .ok (.tableswitch 75 0 4 #[35, 43, 51, 59, 67], 35) := by decide +kernel
theorem dX11_all_36 : decode cX11_all 36 = .ok (.aload_n 0, 1) := by decide +kernel
theorem dX11_all_37 : decode cX11_all 37 = .ok (.getfield 37, 3) := by decide +kernel
theorem dX11_all_40 : decode cX11_all 40 = .ok (.getfield 65, 3) := by decide +kernel
theorem dX11_all_43 : decode cX11_all 43 = .ok (.ireturn, 1) := by decide +kernel
theorem dX11_all_44 : decode cX11_all 44 = .ok (.aload_n 0, 1) := by decide +kernel
theorem dX11_all_45 : decode cX11_all 45 = .ok (.getfield 37, 3) := by decide +kernel
theorem dX11_all_48 : decode cX11_all 48 = .ok (.invokevirtual 302, 3) := by decide +kernel
theorem dX11_all_51 : decode cX11_all 51 = .ok (.ireturn, 1) := by decide +kernel
theorem dX11_all_52 : decode cX11_all 52 = .ok (.aload_n 0, 1) := by decide +kernel
theorem dX11_all_53 : decode cX11_all 53 = .ok (.getfield 37, 3) := by decide +kernel
theorem dX11_all_56 : decode cX11_all 56 = .ok (.invokevirtual 305, 3) := by decide +kernel
theorem dX11_all_59 : decode cX11_all 59 = .ok (.ireturn, 1) := by decide +kernel
theorem dX11_all_60 : decode cX11_all 60 = .ok (.aload_n 0, 1) := by decide +kernel
theorem dX11_all_61 : decode cX11_all 61 = .ok (.getfield 37, 3) := by decide +kernel
theorem dX11_all_64 : decode cX11_all 64 = .ok (.getfield 308, 3) := by decide +kernel
theorem dX11_all_67 : decode cX11_all 67 = .ok (.ireturn, 1) := by decide +kernel
theorem dX11_all_68 : decode cX11_all 68 = .ok (.aload_n 0, 1) := by decide +kernel
theorem dX11_all_69 : decode cX11_all 69 = .ok (.getfield 37, 3) := by decide +kernel
theorem dX11_all_72 : decode cX11_all 72 = .ok (.invokevirtual 311, 3) := by decide +kernel
theorem dX11_all_75 : decode cX11_all 75 = .ok (.ireturn, 1) := by decide +kernel
theorem dX11_all_76 : decode cX11_all 76 = .ok (.iconst (-1), 1) := by decide +kernel
theorem dX11_all_77 : decode cX11_all 77 = .ok (.ireturn, 1) := by decide +kernel
theorem dX11_image_0 : decode cX11_image 0 = .ok (.aload_n 0, 1) := by decide +kernel
theorem dX11_image_1 : decode cX11_image 1 = .ok (.getfield 314, 3) := by decide +kernel
theorem dX11_image_4 : decode cX11_image 4 = .ok (.ifnonnull 14, 3) := by decide +kernel
theorem dX11_image_7 : decode cX11_image 7 = .ok (.aload_n 0, 1) := by decide +kernel
theorem dX11_image_8 : decode cX11_image 8 = .ok (.new 34, 3) := by decide +kernel
theorem dX11_image_11 : decode cX11_image 11 = .ok (.dup, 1) := by decide +kernel
theorem dX11_image_12 : decode cX11_image 12 = .ok (.invokespecial 36, 3) := by decide +kernel
theorem dX11_image_15 : decode cX11_image 15 = .ok (.putfield 314, 3) := by decide +kernel
theorem dX11_image_18 : decode cX11_image 18 = .ok (.aload_n 0, 1) := by decide +kernel
theorem dX11_image_19 : decode cX11_image 19 = .ok (.getfield 314, 3) := by decide +kernel
theorem dX11_image_22 : decode cX11_image 22 = .ok (.aload_n 0, 1) := by decide +kernel
theorem dX11_image_23 : decode cX11_image 23 = .ok (.getfield 37, 3) := by decide +kernel
theorem dX11_image_26 : decode cX11_image 26 = .ok (.invokevirtual 317, 3) := by decide +kernel
theorem dX11_image_29 : decode cX11_image 29 = .ok (.iconst 1, 1) := by decide +kernel
theorem dX11_image_30 : decode cX11_image 30 = .ok (.ireturn, 1) := by decide +kernel
theorem dX11_back_0 : decode cX11_back 0 = .ok (.aload_n 0, 1) := by decide +kernel
theorem dX11_back_1 : decode cX11_back 1 = .ok (.getfield 314, 3) := by decide +kernel
theorem dX11_back_4 : decode cX11_back 4 = .ok (.ifnonnull 5, 3) := by decide +kernel
theorem dX11_back_7 : decode cX11_back 7 = .ok (.iconst 0, 1) := by decide +kernel
theorem dX11_back_8 : decode cX11_back 8 = .ok (.ireturn, 1) := by decide +kernel
theorem dX11_back_9 : decode cX11_back 9 = .ok (.aload_n 0, 1) := by decide +kernel
theorem dX11_back_10 : decode cX11_back 10 = .ok (.getfield 37, 3) := by decide +kernel
theorem dX11_back_13 : decode cX11_back 13 = .ok (.aload_n 0, 1) := by decide +kernel
theorem dX11_back_14 : decode cX11_back 14 = .ok (.getfield 314, 3) := by decide +kernel
theorem dX11_back_17 : decode cX11_back 17 = .ok (.invokevirtual 317, 3) := by decide +kernel
theorem dX11_back_20 : decode cX11_back 20 = .ok (.iconst 1, 1) := by decide +kernel
theorem dX11_back_21 : decode cX11_back 21 = .ok (.ireturn, 1) := by decide +kernel
theorem dX11_agree_0 : decode cX11_agree 0 = .ok (.aload_n 1, 1) := by decide +kernel
theorem dX11_agree_1 : decode cX11_agree 1 = .ok (.getfield 261, 3) := by decide +kernel
theorem dX11_agree_4 : decode cX11_agree 4 = .ok (.aload_n 2, 1) := by decide +kernel
theorem dX11_agree_5 : decode cX11_agree 5 = .ok (.getfield 261, 3) := by decide +kernel
theorem dX11_agree_8 : decode cX11_agree 8 = .ok (.if_icmp .ne 37, 3) := by decide +kernel
theorem dX11_agree_11 : decode cX11_agree 11 = .ok (.aload_n 1, 1) := by decide +kernel
theorem dX11_agree_12 : decode cX11_agree 12 = .ok (.getfield 139, 3) := by decide +kernel
theorem dX11_agree_15 : decode cX11_agree 15 = .ok (.aload_n 2, 1) := by decide +kernel
theorem dX11_agree_16 : decode cX11_agree 16 = .ok (.getfield 139, 3) := by decide +kernel
theorem dX11_agree_19 : decode cX11_agree 19 = .ok (.invokestatic 320, 3) := by decide +kernel
theorem dX11_agree_22 : decode cX11_agree 22 = .ok (.ifCond .eq 21, 3) := by decide +kernel
theorem dX11_agree_25 : decode cX11_agree 25 = .ok (.aload_n 1, 1) := by decide +kernel
theorem dX11_agree_26 : decode cX11_agree 26 = .ok (.getfield 146, 3) := by decide +kernel
theorem dX11_agree_29 : decode cX11_agree 29 = .ok (.aload_n 2, 1) := by decide +kernel
theorem dX11_agree_30 : decode cX11_agree 30 = .ok (.getfield 146, 3) := by decide +kernel
theorem dX11_agree_33 : decode cX11_agree 33 = .ok (.invokestatic 320, 3) := by decide +kernel
theorem dX11_agree_36 : decode cX11_agree 36 = .ok (.ifCond .eq 7, 3) := by decide +kernel
theorem dX11_agree_39 : decode cX11_agree 39 = .ok (.iconst 1, 1) := by decide +kernel
theorem dX11_agree_40 : decode cX11_agree 40 = .ok (.goto 4, 3) := by decide +kernel
theorem dX11_agree_43 : decode cX11_agree 43 = .ok (.iconst 0, 1) := by decide +kernel
theorem dX11_agree_44 : decode cX11_agree 44 = .ok (.ireturn, 1) := by decide +kernel
theorem dX11_agree_45 : decode cX11_agree 45 = .ok (.aload_n 1, 1) := by decide +kernel
theorem dX11_agree_46 : decode cX11_agree 46 = .ok (.getfield 261, 3) := by decide +kernel
theorem dX11_agree_49 : decode cX11_agree 49 = .ok (.aload_n 2, 1) := by decide +kernel
theorem dX11_agree_50 : decode cX11_agree 50 = .ok (.getfield 261, 3) := by decide +kernel
theorem dX11_agree_53 : decode cX11_agree 53 = .ok (.if_icmp .ge 7, 3) := by decide +kernel
theorem dX11_agree_56 : decode cX11_agree 56 = .ok (.aload_n 1, 1) := by decide +kernel
theorem dX11_agree_57 : decode cX11_agree 57 = .ok (.goto 4, 3) := by decide +kernel
theorem dX11_agree_60 : decode cX11_agree 60 = .ok (.aload_n 2, 1) := by decide +kernel
theorem dX11_agree_61 : decode cX11_agree 61 = .ok (.astore_n 3, 1) := by decide +kernel
theorem dX11_agree_62 : decode cX11_agree 62 = .ok (.aload_n 1, 1) := by decide +kernel
theorem dX11_agree_63 : decode cX11_agree 63 = .ok (.getfield 261, 3) := by decide +kernel
theorem dX11_agree_66 : decode cX11_agree 66 = .ok (.aload_n 2, 1) := by decide +kernel
theorem dX11_agree_67 : decode cX11_agree 67 = .ok (.getfield 261, 3) := by decide +kernel
theorem dX11_agree_70 : decode cX11_agree 70 = .ok (.if_icmp .ge 7, 3) := by decide +kernel
theorem dX11_agree_73 : decode cX11_agree 73 = .ok (.aload_n 2, 1) := by decide +kernel
theorem dX11_agree_74 : decode cX11_agree 74 = .ok (.goto 4, 3) := by decide +kernel
theorem dX11_agree_77 : decode cX11_agree 77 = .ok (.aload_n 1, 1) := by decide +kernel
theorem dX11_agree_78 : decode cX11_agree 78 = .ok (.astore 4, 2) := by decide +kernel
theorem dX11_agree_80 : decode cX11_agree 80 = .ok (.aload_n 0, 1) := by decide +kernel
theorem dX11_agree_81 : decode cX11_agree 81 = .ok (.getfield 37, 3) := by decide +kernel
theorem dX11_agree_84 : decode cX11_agree 84 = .ok (.aload 4, 2) := by decide +kernel
theorem dX11_agree_86 : decode cX11_agree 86 = .ok (.getfield 262, 3) := by decide +kernel
theorem dX11_agree_89 : decode cX11_agree 89 = .ok (.invokevirtual 69, 3) := by decide +kernel
theorem dX11_agree_92 : decode cX11_agree 92 = .ok (.astore 5, 2) := by decide +kernel
theorem dX11_agree_94 : decode cX11_agree 94 = .ok (.aload 5, 2) := by decide +kernel
theorem dX11_agree_96 : decode cX11_agree 96 = .ok (.ifnull 16, 3) := by decide +kernel
theorem dX11_agree_99 : decode cX11_agree 99 = .ok (.aload 5, 2) := by decide +kernel
theorem dX11_agree_101 : decode cX11_agree 101 = .ok (.aload 4, 2) := by decide +kernel
theorem dX11_agree_103 : decode cX11_agree 103 = .ok (.getfield 261, 3) := by decide +kernel
theorem dX11_agree_106 : decode cX11_agree 106 = .ok (.invokevirtual 80, 3) := by decide +kernel
theorem dX11_agree_109 : decode cX11_agree 109 = .ok (.ifCond .ne 5, 3) := by decide +kernel
theorem dX11_agree_112 : decode cX11_agree 112 = .ok (.iconst 0, 1) := by decide +kernel
theorem dX11_agree_113 : decode cX11_agree 113 = .ok (.ireturn, 1) := by decide +kernel
theorem dX11_agree_114 : decode cX11_agree 114 = .ok (.aload 5, 2) := by decide +kernel
theorem dX11_agree_116 : decode cX11_agree 116 = .ok (.aload_n 0, 1) := by decide +kernel
theorem dX11_agree_117 : decode cX11_agree 117 = .ok (.getfield 51, 3) := by decide +kernel
theorem dX11_agree_120 : decode cX11_agree 120 = .ok (.aload_n 3, 1) := by decide +kernel
theorem dX11_agree_121 : decode cX11_agree 121 = .ok (.getfield 261, 3) := by decide +kernel
theorem dX11_agree_124 : decode cX11_agree 124 = .ok (.aload 4, 2) := by decide +kernel
theorem dX11_agree_126 : decode cX11_agree 126 = .ok (.getfield 261, 3) := by decide +kernel
theorem dX11_agree_129 : decode cX11_agree 129 = .ok (.invokevirtual 174, 3) := by decide +kernel
theorem dX11_agree_132 : decode cX11_agree 132 = .ok (.aload_n 0, 1) := by decide +kernel
theorem dX11_agree_133 : decode cX11_agree 133 = .ok (.getfield 30, 3) := by decide +kernel
theorem dX11_agree_136 : decode cX11_agree 136 = .ok (.aload_n 0, 1) := by decide +kernel
theorem dX11_agree_137 : decode cX11_agree 137 = .ok (.getfield 51, 3) := by decide +kernel
theorem dX11_agree_140 : decode cX11_agree 140 = .ok (.aload_n 3, 1) := by decide +kernel
theorem dX11_agree_141 : decode cX11_agree 141 = .ok (.aload 4, 2) := by decide +kernel
theorem dX11_agree_143 : decode cX11_agree 143 = .ok (.invokevirtual 237, 3) := by decide +kernel
theorem dX11_agree_146 : decode cX11_agree 146 = .ok (.ireturn, 1) := by decide +kernel
theorem dX11_isPlaceInSum_0 : decode cX11_isPlaceInSum 0 = .ok (.iload_n 0, 1) := by decide +kernel
theorem dX11_isPlaceInSum_1 : decode cX11_isPlaceInSum 1 = .ok (.ifCond .lt 13, 3) := by decide +kernel
theorem dX11_isPlaceInSum_4 : decode cX11_isPlaceInSum 4 = .ok (.iload_n 0, 1) := by decide +kernel
theorem dX11_isPlaceInSum_5 : decode cX11_isPlaceInSum 5 = .ok (.bipush 8, 2) := by decide +kernel
theorem dX11_isPlaceInSum_7 : decode cX11_isPlaceInSum 7 = .ok (.if_icmp .ge 7, 3) := by decide +kernel
theorem dX11_isPlaceInSum_10 : decode cX11_isPlaceInSum 10 = .ok (.iconst 1, 1) := by decide +kernel
theorem dX11_isPlaceInSum_11 : decode cX11_isPlaceInSum 11 = .ok (.goto 4, 3) := by decide +kernel
theorem dX11_isPlaceInSum_14 : decode cX11_isPlaceInSum 14 = .ok (.iconst 0, 1) := by decide +kernel
theorem dX11_isPlaceInSum_15 : decode cX11_isPlaceInSum 15 = .ok (.ireturn, 1) := by decide +kernel
theorem dX11_isSameSum_0 : decode cX11_isSameSum 0 = .ok (.iconst 0, 1) := by decide +kernel
theorem dX11_isSameSum_1 : decode cX11_isSameSum 1 = .ok (.istore_n 2, 1) := by decide +kernel
theorem dX11_isSameSum_2 : decode cX11_isSameSum 2 = .ok (.iload_n 2, 1) := by decide +kernel
theorem dX11_isSameSum_3 : decode cX11_isSameSum 3 = .ok (.bipush 8, 2) := by decide +kernel
theorem dX11_isSameSum_5 : decode cX11_isSameSum 5 = .ok (.if_icmp .ge 20, 3) := by decide +kernel
theorem dX11_isSameSum_8 : decode cX11_isSameSum 8 = .ok (.aload_n 0, 1) := by decide +kernel
theorem dX11_isSameSum_9 : decode cX11_isSameSum 9 = .ok (.iload_n 2, 1) := by decide +kernel
theorem dX11_isSameSum_10 : decode cX11_isSameSum 10 = .ok (.iaload, 1) := by decide +kernel
theorem dX11_isSameSum_11 : decode cX11_isSameSum 11 = .ok (.aload_n 1, 1) := by decide +kernel
theorem dX11_isSameSum_12 : decode cX11_isSameSum 12 = .ok (.iload_n 2, 1) := by decide +kernel
theorem dX11_isSameSum_13 : decode cX11_isSameSum 13 = .ok (.iaload, 1) := by decide +kernel
theorem dX11_isSameSum_14 : decode cX11_isSameSum 14 = .ok (.if_icmp .eq 5, 3) := by decide +kernel
theorem dX11_isSameSum_17 : decode cX11_isSameSum 17 = .ok (.iconst 0, 1) := by decide +kernel
theorem dX11_isSameSum_18 : decode cX11_isSameSum 18 = .ok (.ireturn, 1) := by decide +kernel
theorem dX11_isSameSum_19 : decode cX11_isSameSum 19 = .ok (.iinc 2 1, 3) := by decide +kernel
theorem dX11_isSameSum_22 : decode cX11_isSameSum 22 = .ok (.goto (-20), 3) := by decide +kernel
theorem dX11_isSameSum_25 : decode cX11_isSameSum 25 = .ok (.iconst 1, 1) := by decide +kernel
theorem dX11_isSameSum_26 : decode cX11_isSameSum 26 = .ok (.ireturn, 1) := by decide +kernel
theorem dX11_copySum_0 : decode cX11_copySum 0 = .ok (.aload_n 0, 1) := by decide +kernel
theorem dX11_copySum_1 : decode cX11_copySum 1 = .ok (.iload_n 1, 1) := by decide +kernel
theorem dX11_copySum_2 : decode cX11_copySum 2 = .ok (.bipush 8, 2) := by decide +kernel
theorem dX11_copySum_4 : decode cX11_copySum 4 = .ok (.imul, 1) := by decide +kernel
theorem dX11_copySum_5 : decode cX11_copySum 5 = .ok (.aload_n 2, 1) := by decide +kernel
theorem dX11_copySum_6 : decode cX11_copySum 6 = .ok (.iload_n 3, 1) := by decide +kernel
theorem dX11_copySum_7 : decode cX11_copySum 7 = .ok (.bipush 8, 2) := by decide +kernel
theorem dX11_copySum_9 : decode cX11_copySum 9 = .ok (.imul, 1) := by decide +kernel
theorem dX11_copySum_10 : decode cX11_copySum 10 = .ok (.bipush 8, 2) := by decide +kernel
theorem dX11_copySum_12 : decode cX11_copySum 12 = .ok (.invokestatic 324, 3) := by decide +kernel
theorem dX11_copySum_15 : decode cX11_copySum 15 = .ok (.return_, 1) := by decide +kernel
theorem dX11_setNought_0 : decode cX11_setNought 0 = .ok (.aload_n 0, 1) := by decide +kernel
theorem dX11_setNought_1 : decode cX11_setNought 1 = .ok (.iload_n 1, 1) := by decide +kernel
theorem dX11_setNought_2 : decode cX11_setNought 2 = .ok (.bipush 8, 2) := by decide +kernel
theorem dX11_setNought_4 : decode cX11_setNought 4 = .ok (.imul, 1) := by decide +kernel
theorem dX11_setNought_5 : decode cX11_setNought 5 = .ok (.iload_n 1, 1) := by decide +kernel
theorem dX11_setNought_6 : decode cX11_setNought 6 = .ok (.bipush 8, 2) := by decide +kernel
theorem dX11_setNought_8 : decode cX11_setNought 8 = .ok (.imul, 1) := by decide +kernel
theorem dX11_setNought_9 : decode cX11_setNought 9 = .ok (.bipush 8, 2) := by decide +kernel
theorem dX11_setNought_11 : decode cX11_setNought 11 = .ok (.iadd, 1) := by decide +kernel
theorem dX11_setNought_12 : decode cX11_setNought 12 = .ok (.iconst 0, 1) := by decide +kernel
theorem dX11_setNought_13 : decode cX11_setNought 13 = .ok (.invokestatic 330, 3) := by decide +kernel
theorem dX11_setNought_16 : decode cX11_setNought 16 = .ok (.return_, 1) := by decide +kernel
theorem dX11_bitOfWay_0 : decode cX11_bitOfWay 0 = .ok (.aload_n 0, 1) := by decide +kernel
theorem dX11_bitOfWay_1 : decode cX11_bitOfWay 1 = .ok (.iload_n 1, 1) := by decide +kernel
theorem dX11_bitOfWay_2 : decode cX11_bitOfWay 2 = .ok (.bipush 8, 2) := by decide +kernel
theorem dX11_bitOfWay_4 : decode cX11_bitOfWay 4 = .ok (.imul, 1) := by decide +kernel
theorem dX11_bitOfWay_5 : decode cX11_bitOfWay 5 = .ok (.iload_n 2, 1) := by decide +kernel
theorem dX11_bitOfWay_6 : decode cX11_bitOfWay 6 = .ok (.bipush 32, 2) := by decide +kernel
theorem dX11_bitOfWay_8 : decode cX11_bitOfWay 8 = .ok (.idiv, 1) := by decide +kernel
theorem dX11_bitOfWay_9 : decode cX11_bitOfWay 9 = .ok (.iadd, 1) := by decide +kernel
theorem dX11_bitOfWay_10 : decode cX11_bitOfWay 10 = .ok (.iaload, 1) := by decide +kernel
theorem dX11_bitOfWay_11 : decode cX11_bitOfWay 11 = .ok (.istore_n 3, 1) := by decide +kernel
theorem dX11_bitOfWay_12 : decode cX11_bitOfWay 12 = .ok (.iload_n 3, 1) := by decide +kernel
theorem dX11_bitOfWay_13 : decode cX11_bitOfWay 13 = .ok (.bipush 31, 2) := by decide +kernel
theorem dX11_bitOfWay_15 : decode cX11_bitOfWay 15 = .ok (.iload_n 2, 1) := by decide +kernel
theorem dX11_bitOfWay_16 : decode cX11_bitOfWay 16 = .ok (.bipush 32, 2) := by decide +kernel
theorem dX11_bitOfWay_18 : decode cX11_bitOfWay 18 = .ok (.irem, 1) := by decide +kernel
theorem dX11_bitOfWay_19 : decode cX11_bitOfWay 19 = .ok (.isub, 1) := by decide +kernel
theorem dX11_bitOfWay_20 : decode cX11_bitOfWay 20 = .ok (.iushr, 1) := by decide +kernel
theorem dX11_bitOfWay_21 : decode cX11_bitOfWay 21 = .ok (.iconst 1, 1) := by decide +kernel
theorem dX11_bitOfWay_22 : decode cX11_bitOfWay 22 = .ok (.iand, 1) := by decide +kernel
theorem dX11_bitOfWay_23 : decode cX11_bitOfWay 23 = .ok (.ireturn, 1) := by decide +kernel
theorem dX11_blockLevel_0 : decode cX11_blockLevel 0 = .ok (.iconst 0, 1) := by decide +kernel
theorem dX11_blockLevel_1 : decode cX11_blockLevel 1 = .ok (.istore_n 2, 1) := by decide +kernel
theorem dX11_blockLevel_2 : decode cX11_blockLevel 2 = .ok (.iconst 1, 1) := by decide +kernel
theorem dX11_blockLevel_3 : decode cX11_blockLevel 3 = .ok (.istore_n 3, 1) := by decide +kernel
theorem dX11_blockLevel_4 : decode cX11_blockLevel 4 = .ok (.iload_n 3, 1) := by decide +kernel
theorem dX11_blockLevel_5 : decode cX11_blockLevel 5 = .ok (.bipush 9, 2) := by decide +kernel
theorem dX11_blockLevel_7 : decode cX11_blockLevel 7 = .ok (.if_icmp .ge 36, 3) := by decide +kernel
theorem dX11_blockLevel_10 : decode cX11_blockLevel 10 = .ok (.iconst 1, 1) := by decide +kernel
theorem dX11_blockLevel_11 : decode cX11_blockLevel 11 = .ok (.iload_n 3, 1) := by decide +kernel
theorem dX11_blockLevel_12 : decode cX11_blockLevel 12 = .ok (.ishl, 1) := by decide +kernel
theorem dX11_blockLevel_13 : decode cX11_blockLevel 13 = .ok (.istore 4, 2) := by decide +kernel
theorem dX11_blockLevel_15 : decode cX11_blockLevel 15 = .ok (.iload_n 0, 1) := by decide +kernel
theorem dX11_blockLevel_16 : decode cX11_blockLevel 16 = .ok (.iload 4, 2) := by decide +kernel
theorem dX11_blockLevel_18 : decode cX11_blockLevel 18 = .ok (.iconst 1, 1) := by decide +kernel
theorem dX11_blockLevel_19 : decode cX11_blockLevel 19 = .ok (.isub, 1) := by decide +kernel
theorem dX11_blockLevel_20 : decode cX11_blockLevel 20 = .ok (.iand, 1) := by decide +kernel
theorem dX11_blockLevel_21 : decode cX11_blockLevel 21 = .ok (.ifCond .ne 22, 3) := by decide +kernel
theorem dX11_blockLevel_24 : decode cX11_blockLevel 24 = .ok (.iload_n 0, 1) := by decide +kernel
theorem dX11_blockLevel_25 : decode cX11_blockLevel 25 = .ok (.iload 4, 2) := by decide +kernel
theorem dX11_blockLevel_27 : decode cX11_blockLevel 27 = .ok (.iadd, 1) := by decide +kernel
theorem dX11_blockLevel_28 : decode cX11_blockLevel 28 = .ok (.iload_n 1, 1) := by decide +kernel
theorem dX11_blockLevel_29 : decode cX11_blockLevel 29 = .ok (.if_icmp .le 6, 3) := by decide +kernel
theorem dX11_blockLevel_32 : decode cX11_blockLevel 32 = .ok (.goto 11, 3) := by decide +kernel
theorem dX11_blockLevel_35 : decode cX11_blockLevel 35 = .ok (.iload_n 3, 1) := by decide +kernel
theorem dX11_blockLevel_36 : decode cX11_blockLevel 36 = .ok (.istore_n 2, 1) := by decide +kernel
theorem dX11_blockLevel_37 : decode cX11_blockLevel 37 = .ok (.iinc 3 1, 3) := by decide +kernel
theorem dX11_blockLevel_40 : decode cX11_blockLevel 40 = .ok (.goto (-36), 3) := by decide +kernel
theorem dX11_blockLevel_43 : decode cX11_blockLevel 43 = .ok (.iload_n 2, 1) := by decide +kernel
theorem dX11_blockLevel_44 : decode cX11_blockLevel 44 = .ok (.ireturn, 1) := by decide +kernel
theorem dJ9_max_7cf53_0 : decode cJ9_max_7cf53 0 = .ok (.iload_n 0, 1) := by decide +kernel
theorem dJ9_max_7cf53_1 : decode cJ9_max_7cf53 1 = .ok (.iload_n 1, 1) := by decide +kernel
theorem dJ9_max_7cf53_2 : decode cJ9_max_7cf53 2 = .ok (.if_icmp .lt 7, 3) := by decide +kernel
theorem dJ9_max_7cf53_5 : decode cJ9_max_7cf53 5 = .ok (.iload_n 0, 1) := by decide +kernel
theorem dJ9_max_7cf53_6 : decode cJ9_max_7cf53 6 = .ok (.goto 4, 3) := by decide +kernel
theorem dJ9_max_7cf53_9 : decode cJ9_max_7cf53 9 = .ok (.iload_n 1, 1) := by decide +kernel
theorem dJ9_max_7cf53_10 : decode cJ9_max_7cf53 10 = .ok (.ireturn, 1) := by decide +kernel
theorem dJ9_min_7cf53_0 : decode cJ9_min_7cf53 0 = .ok (.iload_n 0, 1) := by decide +kernel
theorem dJ9_min_7cf53_1 : decode cJ9_min_7cf53 1 = .ok (.iload_n 1, 1) := by decide +kernel
theorem dJ9_min_7cf53_2 : decode cJ9_min_7cf53 2 = .ok (.if_icmp .gt 7, 3) := by decide +kernel
theorem dJ9_min_7cf53_5 : decode cJ9_min_7cf53 5 = .ok (.iload_n 0, 1) := by decide +kernel
theorem dJ9_min_7cf53_6 : decode cJ9_min_7cf53 6 = .ok (.goto 4, 3) := by decide +kernel
theorem dJ9_min_7cf53_9 : decode cJ9_min_7cf53 9 = .ok (.iload_n 1, 1) := by decide +kernel
theorem dJ9_min_7cf53_10 : decode cJ9_min_7cf53 10 = .ok (.ireturn, 1) := by decide +kernel
theorem dJ7_rangeCheck_23922_0 : decode cJ7_rangeCheck_23922 0 = .ok (.iload_n 1, 1) := by decide +kernel
theorem dJ7_rangeCheck_23922_1 : decode cJ7_rangeCheck_23922 1 = .ok (.iload_n 2, 1) := by decide +kernel
theorem dJ7_rangeCheck_23922_2 : decode cJ7_rangeCheck_23922 2 = .ok (.if_icmp .le 44, 3) := by decide +kernel
theorem dJ7_rangeCheck_23922_5 : decode cJ7_rangeCheck_23922 5 = .ok (.new 43, 3) := by decide +kernel
theorem dJ7_rangeCheck_23922_8 : decode cJ7_rangeCheck_23922 8 = .ok (.dup, 1) := by decide +kernel
theorem dJ7_rangeCheck_23922_9 : decode cJ7_rangeCheck_23922 9 = .ok (.new 45, 3) := by decide +kernel
theorem dJ7_rangeCheck_23922_12 : decode cJ7_rangeCheck_23922 12 = .ok (.dup, 1) := by decide +kernel
theorem dJ7_rangeCheck_23922_13 : decode cJ7_rangeCheck_23922 13 = .ok (.invokespecial 47, 3) := by decide +kernel
theorem dJ7_rangeCheck_23922_16 : decode cJ7_rangeCheck_23922 16 = .ok (.ldc 48, 2) := by decide +kernel
theorem dJ7_rangeCheck_23922_18 : decode cJ7_rangeCheck_23922 18 = .ok (.invokevirtual 50, 3) := by decide +kernel
theorem dJ7_rangeCheck_23922_21 : decode cJ7_rangeCheck_23922 21 = .ok (.iload_n 1, 1) := by decide +kernel
theorem dJ7_rangeCheck_23922_22 : decode cJ7_rangeCheck_23922 22 = .ok (.invokevirtual 54, 3) := by decide +kernel
theorem dJ7_rangeCheck_23922_25 : decode cJ7_rangeCheck_23922 25 = .ok (.ldc 57, 2) := by decide +kernel
theorem dJ7_rangeCheck_23922_27 : decode cJ7_rangeCheck_23922 27 = .ok (.invokevirtual 50, 3) := by decide +kernel
theorem dJ7_rangeCheck_23922_30 : decode cJ7_rangeCheck_23922 30 = .ok (.iload_n 2, 1) := by decide +kernel
theorem dJ7_rangeCheck_23922_31 : decode cJ7_rangeCheck_23922 31 = .ok (.invokevirtual 54, 3) := by decide +kernel
theorem dJ7_rangeCheck_23922_34 : decode cJ7_rangeCheck_23922 34 = .ok (.ldc 59, 2) := by decide +kernel
theorem dJ7_rangeCheck_23922_36 : decode cJ7_rangeCheck_23922 36 = .ok (.invokevirtual 50, 3) := by decide +kernel
theorem dJ7_rangeCheck_23922_39 : decode cJ7_rangeCheck_23922 39 = .ok (.invokevirtual 61, 3) := by decide +kernel
theorem dJ7_rangeCheck_23922_42 : decode cJ7_rangeCheck_23922 42 = .ok (.invokespecial 65, 3) := by decide +kernel
theorem dJ7_rangeCheck_23922_45 : decode cJ7_rangeCheck_23922 45 = .ok (.athrow, 1) := by decide +kernel
theorem dJ7_rangeCheck_23922_46 : decode cJ7_rangeCheck_23922 46 = .ok (.iload_n 1, 1) := by decide +kernel
theorem dJ7_rangeCheck_23922_47 : decode cJ7_rangeCheck_23922 47 = .ok (.ifCond .ge 12, 3) := by decide +kernel
theorem dJ7_rangeCheck_23922_50 : decode cJ7_rangeCheck_23922 50 = .ok (.new 68, 3) := by decide +kernel
theorem dJ7_rangeCheck_23922_53 : decode cJ7_rangeCheck_23922 53 = .ok (.dup, 1) := by decide +kernel
theorem dJ7_rangeCheck_23922_54 : decode cJ7_rangeCheck_23922 54 = .ok (.iload_n 1, 1) := by decide +kernel
theorem dJ7_rangeCheck_23922_55 : decode cJ7_rangeCheck_23922 55 = .ok (.invokespecial 70, 3) := by decide +kernel
theorem dJ7_rangeCheck_23922_58 : decode cJ7_rangeCheck_23922 58 = .ok (.athrow, 1) := by decide +kernel
theorem dJ7_rangeCheck_23922_59 : decode cJ7_rangeCheck_23922 59 = .ok (.iload_n 2, 1) := by decide +kernel
theorem dJ7_rangeCheck_23922_60 : decode cJ7_rangeCheck_23922 60 = .ok (.iload_n 0, 1) := by decide +kernel
theorem dJ7_rangeCheck_23922_61 : decode cJ7_rangeCheck_23922 61 = .ok (.if_icmp .le 12, 3) := by decide +kernel
theorem dJ7_rangeCheck_23922_64 : decode cJ7_rangeCheck_23922 64 = .ok (.new 68, 3) := by decide +kernel
theorem dJ7_rangeCheck_23922_67 : decode cJ7_rangeCheck_23922 67 = .ok (.dup, 1) := by decide +kernel
theorem dJ7_rangeCheck_23922_68 : decode cJ7_rangeCheck_23922 68 = .ok (.iload_n 2, 1) := by decide +kernel
theorem dJ7_rangeCheck_23922_69 : decode cJ7_rangeCheck_23922 69 = .ok (.invokespecial 70, 3) := by decide +kernel
theorem dJ7_rangeCheck_23922_72 : decode cJ7_rangeCheck_23922 72 = .ok (.athrow, 1) := by decide +kernel
theorem dJ7_rangeCheck_23922_73 : decode cJ7_rangeCheck_23922 73 = .ok (.return_, 1) := by decide +kernel
theorem dJ7_fill_53178_0 : decode cJ7_fill_53178 0 = .ok (.iconst 0, 1) := by decide +kernel
theorem dJ7_fill_53178_1 : decode cJ7_fill_53178 1 = .ok (.istore_n 2, 1) := by decide +kernel
theorem dJ7_fill_53178_2 : decode cJ7_fill_53178 2 = .ok (.aload_n 0, 1) := by decide +kernel
theorem dJ7_fill_53178_3 : decode cJ7_fill_53178 3 = .ok (.arraylength, 1) := by decide +kernel
theorem dJ7_fill_53178_4 : decode cJ7_fill_53178 4 = .ok (.istore_n 3, 1) := by decide +kernel
theorem dJ7_fill_53178_5 : decode cJ7_fill_53178 5 = .ok (.iload_n 2, 1) := by decide +kernel
theorem dJ7_fill_53178_6 : decode cJ7_fill_53178 6 = .ok (.iload_n 3, 1) := by decide +kernel
theorem dJ7_fill_53178_7 : decode cJ7_fill_53178 7 = .ok (.if_icmp .ge 13, 3) := by decide +kernel
theorem dJ7_fill_53178_10 : decode cJ7_fill_53178 10 = .ok (.aload_n 0, 1) := by decide +kernel
theorem dJ7_fill_53178_11 : decode cJ7_fill_53178 11 = .ok (.iload_n 2, 1) := by decide +kernel
theorem dJ7_fill_53178_12 : decode cJ7_fill_53178 12 = .ok (.iload_n 1, 1) := by decide +kernel
theorem dJ7_fill_53178_13 : decode cJ7_fill_53178 13 = .ok (.iastore, 1) := by decide +kernel
theorem dJ7_fill_53178_14 : decode cJ7_fill_53178 14 = .ok (.iinc 2 1, 3) := by decide +kernel
theorem dJ7_fill_53178_17 : decode cJ7_fill_53178 17 = .ok (.goto (-12), 3) := by decide +kernel
theorem dJ7_fill_53178_20 : decode cJ7_fill_53178 20 = .ok (.return_, 1) := by decide +kernel
theorem dJ7_fill_fda19_0 : decode cJ7_fill_fda19 0 = .ok (.aload_n 0, 1) := by decide +kernel
theorem dJ7_fill_fda19_1 : decode cJ7_fill_fda19 1 = .ok (.arraylength, 1) := by decide +kernel
theorem dJ7_fill_fda19_2 : decode cJ7_fill_fda19 2 = .ok (.iload_n 1, 1) := by decide +kernel
theorem dJ7_fill_fda19_3 : decode cJ7_fill_fda19 3 = .ok (.iload_n 2, 1) := by decide +kernel
theorem dJ7_fill_fda19_4 : decode cJ7_fill_fda19 4 = .ok (.invokestatic 13, 3) := by decide +kernel
theorem dJ7_fill_fda19_7 : decode cJ7_fill_fda19 7 = .ok (.iload_n 1, 1) := by decide +kernel
theorem dJ7_fill_fda19_8 : decode cJ7_fill_fda19 8 = .ok (.istore 4, 2) := by decide +kernel
theorem dJ7_fill_fda19_10 : decode cJ7_fill_fda19 10 = .ok (.iload 4, 2) := by decide +kernel
theorem dJ7_fill_fda19_12 : decode cJ7_fill_fda19 12 = .ok (.iload_n 2, 1) := by decide +kernel
theorem dJ7_fill_fda19_13 : decode cJ7_fill_fda19 13 = .ok (.if_icmp .ge 14, 3) := by decide +kernel
theorem dJ7_fill_fda19_16 : decode cJ7_fill_fda19 16 = .ok (.aload_n 0, 1) := by decide +kernel
theorem dJ7_fill_fda19_17 : decode cJ7_fill_fda19 17 = .ok (.iload 4, 2) := by decide +kernel
theorem dJ7_fill_fda19_19 : decode cJ7_fill_fda19 19 = .ok (.iload_n 3, 1) := by decide +kernel
theorem dJ7_fill_fda19_20 : decode cJ7_fill_fda19 20 = .ok (.iastore, 1) := by decide +kernel
theorem dJ7_fill_fda19_21 : decode cJ7_fill_fda19 21 = .ok (.iinc 4 1, 3) := by decide +kernel
theorem dJ7_fill_fda19_24 : decode cJ7_fill_fda19 24 = .ok (.goto (-14), 3) := by decide +kernel
theorem dJ7_fill_fda19_27 : decode cJ7_fill_fda19 27 = .ok (.return_, 1) := by decide +kernel
theorem dJ7_copyOf_59c91_0 : decode cJ7_copyOf_59c91 0 = .ok (.iload_n 1, 1) := by decide +kernel
theorem dJ7_copyOf_59c91_1 : decode cJ7_copyOf_59c91 1 = .ok (.aload_n 0, 1) := by decide +kernel
theorem dJ7_copyOf_59c91_2 : decode cJ7_copyOf_59c91 2 = .ok (.arraylength, 1) := by decide +kernel
theorem dJ7_copyOf_59c91_3 : decode cJ7_copyOf_59c91 3 = .ok (.if_icmp .ne 11, 3) := by decide +kernel
theorem dJ7_copyOf_59c91_6 : decode cJ7_copyOf_59c91 6 = .ok (.aload_n 0, 1) := by decide +kernel
theorem dJ7_copyOf_59c91_7 : decode cJ7_copyOf_59c91 7 = .ok (.invokevirtual 316, 3) := by decide +kernel
theorem dJ7_copyOf_59c91_10 : decode cJ7_copyOf_59c91 10 = .ok (.checkcast 317, 3) := by decide +kernel
theorem dJ7_copyOf_59c91_13 : decode cJ7_copyOf_59c91 13 = .ok (.areturn, 1) := by decide +kernel
theorem dJ7_copyOf_59c91_14 : decode cJ7_copyOf_59c91 14 = .ok (.iload_n 1, 1) := by decide +kernel
theorem dJ7_copyOf_59c91_15 : decode cJ7_copyOf_59c91 15 = .ok (.newarray .int, 2) := by decide +kernel
theorem dJ7_copyOf_59c91_17 : decode cJ7_copyOf_59c91 17 = .ok (.astore_n 2, 1) := by decide +kernel
theorem dJ7_copyOf_59c91_18 : decode cJ7_copyOf_59c91 18 = .ok (.aload_n 0, 1) := by decide +kernel
theorem dJ7_copyOf_59c91_19 : decode cJ7_copyOf_59c91 19 = .ok (.iconst 0, 1) := by decide +kernel
theorem dJ7_copyOf_59c91_20 : decode cJ7_copyOf_59c91 20 = .ok (.aload_n 2, 1) := by decide +kernel
theorem dJ7_copyOf_59c91_21 : decode cJ7_copyOf_59c91 21 = .ok (.iconst 0, 1) := by decide +kernel
theorem dJ7_copyOf_59c91_22 : decode cJ7_copyOf_59c91 22 = .ok (.aload_n 0, 1) := by decide +kernel
theorem dJ7_copyOf_59c91_23 : decode cJ7_copyOf_59c91 23 = .ok (.arraylength, 1) := by decide +kernel
theorem dJ7_copyOf_59c91_24 : decode cJ7_copyOf_59c91 24 = .ok (.iload_n 1, 1) := by decide +kernel
theorem dJ7_copyOf_59c91_25 : decode cJ7_copyOf_59c91 25 = .ok (.invokestatic 304, 3) := by decide +kernel
theorem dJ7_copyOf_59c91_28 : decode cJ7_copyOf_59c91 28 = .ok (.invokestatic 150, 3) := by decide +kernel
theorem dJ7_copyOf_59c91_31 : decode cJ7_copyOf_59c91 31 = .ok (.aload_n 2, 1) := by decide +kernel
theorem dJ7_copyOf_59c91_32 : decode cJ7_copyOf_59c91 32 = .ok (.areturn, 1) := by decide +kernel
