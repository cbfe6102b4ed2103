theorem dX9_init_204 : decode cX9_init 204 = .ok (.iinc 1 1, 3) := by decide +kernel
theorem dX9_init_207 : decode cX9_init 207 = .ok (.goto (-15), 3) := by decide +kernel
theorem dX9_init_210 : decode cX9_init 210 = .ok (.return_, 1) := by decide +kernel
theorem dX9_in_0 : decode cX9_in 0 = .ok (.lload_n 0, 1) := by decide +kernel
theorem dX9_in_1 : decode cX9_in 1 = .ok (.lload_n 2, 1) := by decide +kernel
theorem dX9_in_2 : decode cX9_in 2 = .ok (.lcmp, 1) := by decide +kernel
theorem dX9_in_3 : decode cX9_in 3 = .ok (.ifCond .lt 14, 3) := by decide +kernel
theorem dX9_in_6 : decode cX9_in 6 = .ok (.lload_n 0, 1) := by decide +kernel
theorem dX9_in_7 : decode cX9_in 7 = .ok (.lload 4, 2) := by decide +kernel
theorem dX9_in_9 : decode cX9_in 9 = .ok (.lcmp, 1) := by decide +kernel
theorem dX9_in_10 : decode cX9_in 10 = .ok (.ifCond .gt 7, 3) := by decide +kernel
theorem dX9_in_13 : decode cX9_in 13 = .ok (.iconst 1, 1) := by decide +kernel
theorem dX9_in_14 : decode cX9_in 14 = .ok (.goto 4, 3) := by decide +kernel
theorem dX9_in_17 : decode cX9_in 17 = .ok (.iconst 0, 1) := by decide +kernel
theorem dX9_in_18 : decode cX9_in 18 = .ok (.ireturn, 1) := by decide +kernel
theorem dX9_lost_0 : decode cX9_lost 0 = .ok (.ldc2_w 82, 3) := by decide +kernel
theorem dX9_lost_3 : decode cX9_lost 3 = .ok (.lreturn, 1) := by decide +kernel
theorem dX9_greater_0 : decode cX9_greater 0 = .ok (.iload_n 0, 1) := by decide +kernel
theorem dX9_greater_1 : decode cX9_greater 1 = .ok (.iload_n 1, 1) := by decide +kernel
theorem dX9_greater_2 : decode cX9_greater 2 = .ok (.if_icmp .le 7, 3) := by decide +kernel
theorem dX9_greater_5 : decode cX9_greater 5 = .ok (.iload_n 0, 1) := by decide +kernel
theorem dX9_greater_6 : decode cX9_greater 6 = .ok (.goto 4, 3) := by decide +kernel
theorem dX9_greater_9 : decode cX9_greater 9 = .ok (.iload_n 1, 1) := by decide +kernel
theorem dX9_greater_10 : decode cX9_greater 10 = .ok (.ireturn, 1) := by decide +kernel
theorem dX9_told_0 : decode cX9_told 0 = .ok (.lload_n 0, 1) := by decide +kernel
theorem dX9_told_1 : decode cX9_told 1 = .ok (.lstore 5, 2) := by decide +kernel
theorem dX9_told_3 : decode cX9_told 3 = .ok (.lload_n 2, 1) := by decide +kernel
theorem dX9_told_4 : decode cX9_told 4 = .ok (.lstore 7, 2) := by decide +kernel
theorem dX9_told_6 : decode cX9_told 6 = .ok (.lload 7, 2) := by decide +kernel
theorem dX9_told_8 : decode cX9_told 8 = .ok (.lconst 0, 1) := by decide +kernel
theorem dX9_told_9 : decode cX9_told 9 = .ok (.lcmp, 1) := by decide +kernel
theorem dX9_told_10 : decode cX9_told 10 = .ok (.ifCond .eq 21, 3) := by decide +kernel
theorem dX9_told_13 : decode cX9_told 13 = .ok (.lload 5, 2) := by decide +kernel
theorem dX9_told_15 : decode cX9_told 15 = .ok (.lload 7, 2) := by decide +kernel
theorem dX9_told_17 : decode cX9_told 17 = .ok (.lrem, 1) := by decide +kernel
theorem dX9_told_18 : decode cX9_told 18 = .ok (.lstore 9, 2) := by decide +kernel
theorem dX9_told_20 : decode cX9_told 20 = .ok (.lload 7, 2) := by decide +kernel
theorem dX9_told_22 : decode cX9_told 22 = .ok (.lstore 5, 2) := by decide +kernel
theorem dX9_told_24 : decode cX9_told 24 = .ok (.lload 9, 2) := by decide +kernel
theorem dX9_told_26 : decode cX9_told 26 = .ok (.lstore 7, 2) := by decide +kernel
theorem dX9_told_28 : decode cX9_told 28 = .ok (.goto (-22), 3) := by decide +kernel
theorem dX9_told_31 : decode cX9_told 31 = .ok (.iload 4, 2) := by decide +kernel
theorem dX9_told_33 : decode cX9_told 33 = .ok (.ifCond .ne 7, 3) := by decide +kernel
theorem dX9_told_36 : decode cX9_told 36 = .ok (.lload_n 0, 1) := by decide +kernel
theorem dX9_told_37 : decode cX9_told 37 = .ok (.goto 4, 3) := by decide +kernel
theorem dX9_told_40 : decode cX9_told 40 = .ok (.lload_n 2, 1) := by decide +kernel
theorem dX9_told_41 : decode cX9_told 41 = .ok (.lload 5, 2) := by decide +kernel
theorem dX9_told_43 : decode cX9_told 43 = .ok (.ldiv, 1) := by decide +kernel
theorem dX9_told_44 : decode cX9_told 44 = .ok (.lreturn, 1) := by decide +kernel
theorem dX9_refused_0 : decode cX9_refused 0 = .ok (.aload_n 0, 1) := by decide +kernel
theorem dX9_refused_1 : decode cX9_refused 1 = .ok (.iconst 0, 1) := by decide +kernel
theorem dX9_refused_2 : decode cX9_refused 2 = .ok (.putfield 84, 3) := by decide +kernel
theorem dX9_refused_5 : decode cX9_refused 5 = .ok (.iload_n 1, 1) := by decide +kernel
theorem dX9_refused_6 : decode cX9_refused 6 = .ok (.ireturn, 1) := by decide +kernel
theorem dX9_failed_0 : decode cX9_failed 0 = .ok (.aload_n 0, 1) := by decide +kernel
theorem dX9_failed_1 : decode cX9_failed 1 = .ok (.iload_n 1, 1) := by decide +kernel
theorem dX9_failed_2 : decode cX9_failed 2 = .ok (.putfield 84, 3) := by decide +kernel
theorem dX9_failed_5 : decode cX9_failed 5 = .ok (.bipush (-10), 2) := by decide +kernel
theorem dX9_failed_7 : decode cX9_failed 7 = .ok (.iload_n 1, 1) := by decide +kernel
theorem dX9_failed_8 : decode cX9_failed 8 = .ok (.isub, 1) := by decide +kernel
theorem dX9_failed_9 : decode cX9_failed 9 = .ok (.ireturn, 1) := by decide +kernel
theorem dX9_failedLong_0 : decode cX9_failedLong 0 = .ok (.aload_n 0, 1) := by decide +kernel
theorem dX9_failedLong_1 : decode cX9_failedLong 1 = .ok (.iload_n 1, 1) := by decide +kernel
theorem dX9_failedLong_2 : decode cX9_failedLong 2 = .ok (.putfield 84, 3) := by decide +kernel
theorem dX9_failedLong_5 : decode cX9_failedLong 5 = .ok (.invokestatic 88, 3) := by decide +kernel
theorem dX9_failedLong_8 : decode cX9_failedLong 8 = .ok (.lreturn, 1) := by decide +kernel
theorem dX9_barred_0 : decode cX9_barred 0 = .ok (.iload_n 1, 1) := by decide +kernel
theorem dX9_barred_1 : decode cX9_barred 1 = .ok (.invokestatic 92, 3) := by decide +kernel
theorem dX9_barred_4 : decode cX9_barred 4 = .ok (.ifCond .eq 9, 3) := by decide +kernel
theorem dX9_barred_7 : decode cX9_barred 7 = .ok (.aload_n 0, 1) := by decide +kernel
theorem dX9_barred_8 : decode cX9_barred 8 = .ok (.iconst (-1), 1) := by decide +kernel
theorem dX9_barred_9 : decode cX9_barred 9 = .ok (.invokevirtual 96, 3) := by decide +kernel
theorem dX9_barred_12 : decode cX9_barred 12 = .ok (.ireturn, 1) := by decide +kernel
theorem dX9_barred_13 : decode cX9_barred 13 = .ok (.iload_n 2, 1) := by decide +kernel
theorem dX9_barred_14 : decode cX9_barred 14 = .ok (.i2l, 1) := by decide +kernel
theorem dX9_barred_15 : decode cX9_barred 15 = .ok (.lconst 0, 1) := by decide +kernel
theorem dX9_barred_16 : decode cX9_barred 16 = .ok (.ldc2_w 100, 3) := by decide +kernel
theorem dX9_barred_19 : decode cX9_barred 19 = .ok (.invokestatic 102, 3) := by decide +kernel
theorem dX9_barred_22 : decode cX9_barred 22 = .ok (.ifCond .ne 10, 3) := by decide +kernel
theorem dX9_barred_25 : decode cX9_barred 25 = .ok (.aload_n 0, 1) := by decide +kernel
theorem dX9_barred_26 : decode cX9_barred 26 = .ok (.bipush (-2), 2) := by decide +kernel
theorem dX9_barred_28 : decode cX9_barred 28 = .ok (.invokevirtual 96, 3) := by decide +kernel
theorem dX9_barred_31 : decode cX9_barred 31 = .ok (.ireturn, 1) := by decide +kernel
theorem dX9_barred_32 : decode cX9_barred 32 = .ok (.aload_n 0, 1) := by decide +kernel
theorem dX9_barred_33 : decode cX9_barred 33 = .ok (.getfield 70, 3) := by decide +kernel
theorem dX9_barred_36 : decode cX9_barred 36 = .ok (.iload_n 1, 1) := by decide +kernel
theorem dX9_barred_37 : decode cX9_barred 37 = .ok (.iaload, 1) := by decide +kernel
theorem dX9_barred_38 : decode cX9_barred 38 = .ok (.ifCond .lt 19, 3) := by decide +kernel
theorem dX9_barred_41 : decode cX9_barred 41 = .ok (.aload_n 0, 1) := by decide +kernel
theorem dX9_barred_42 : decode cX9_barred 42 = .ok (.getfield 73, 3) := by decide +kernel
theorem dX9_barred_45 : decode cX9_barred 45 = .ok (.iload_n 1, 1) := by decide +kernel
theorem dX9_barred_46 : decode cX9_barred 46 = .ok (.iaload, 1) := by decide +kernel
theorem dX9_barred_47 : decode cX9_barred 47 = .ok (.iload_n 2, 1) := by decide +kernel
theorem dX9_barred_48 : decode cX9_barred 48 = .ok (.if_icmp .eq 9, 3) := by decide +kernel
theorem dX9_barred_51 : decode cX9_barred 51 = .ok (.aload_n 0, 1) := by decide +kernel
theorem dX9_barred_52 : decode cX9_barred 52 = .ok (.iconst 2, 1) := by decide +kernel
theorem dX9_barred_53 : decode cX9_barred 53 = .ok (.invokevirtual 106, 3) := by decide +kernel
theorem dX9_barred_56 : decode cX9_barred 56 = .ok (.ireturn, 1) := by decide +kernel
theorem dX9_barred_57 : decode cX9_barred 57 = .ok (.aload_n 0, 1) := by decide +kernel
theorem dX9_barred_58 : decode cX9_barred 58 = .ok (.getfield 70, 3) := by decide +kernel
theorem dX9_barred_61 : decode cX9_barred 61 = .ok (.iload_n 1, 1) := by decide +kernel
theorem dX9_barred_62 : decode cX9_barred 62 = .ok (.iaload, 1) := by decide +kernel
theorem dX9_barred_63 : decode cX9_barred 63 = .ok (.ifCond .ge 9, 3) := by decide +kernel
theorem dX9_barred_66 : decode cX9_barred 66 = .ok (.aload_n 0, 1) := by decide +kernel
theorem dX9_barred_67 : decode cX9_barred 67 = .ok (.iconst 1, 1) := by decide +kernel
theorem dX9_barred_68 : decode cX9_barred 68 = .ok (.invokevirtual 106, 3) := by decide +kernel
theorem dX9_barred_71 : decode cX9_barred 71 = .ok (.ireturn, 1) := by decide +kernel
theorem dX9_barred_72 : decode cX9_barred 72 = .ok (.lload 4, 2) := by decide +kernel
theorem dX9_barred_74 : decode cX9_barred 74 = .ok (.lconst 0, 1) := by decide +kernel
theorem dX9_barred_75 : decode cX9_barred 75 = .ok (.lcmp, 1) := by decide +kernel
theorem dX9_barred_76 : decode cX9_barred 76 = .ok (.ifCond .ge 9, 3) := by decide +kernel
theorem dX9_barred_79 : decode cX9_barred 79 = .ok (.aload_n 0, 1) := by decide +kernel
theorem dX9_barred_80 : decode cX9_barred 80 = .ok (.iconst 4, 1) := by decide +kernel
theorem dX9_barred_81 : decode cX9_barred 81 = .ok (.invokevirtual 106, 3) := by decide +kernel
theorem dX9_barred_84 : decode cX9_barred 84 = .ok (.ireturn, 1) := by decide +kernel
theorem dX9_barred_85 : decode cX9_barred 85 = .ok (.iload_n 3, 1) := by decide +kernel
theorem dX9_barred_86 : decode cX9_barred 86 = .ok (.lload 4, 2) := by decide +kernel
theorem dX9_barred_88 : decode cX9_barred 88 = .ok (.aload_n 0, 1) := by decide +kernel
theorem dX9_barred_89 : decode cX9_barred 89 = .ok (.getfield 70, 3) := by decide +kernel
theorem dX9_barred_92 : decode cX9_barred 92 = .ok (.iload_n 1, 1) := by decide +kernel
theorem dX9_barred_93 : decode cX9_barred 93 = .ok (.iaload, 1) := by decide +kernel
theorem dX9_barred_94 : decode cX9_barred 94 = .ok (.invokestatic 109, 3) := by decide +kernel
theorem dX9_barred_97 : decode cX9_barred 97 = .ok (.ifCond .eq 11, 3) := by decide +kernel
theorem dX9_barred_100 : decode cX9_barred 100 = .ok (.aload_n 0, 1) := by decide +kernel
theorem dX9_barred_101 : decode cX9_barred 101 = .ok (.iconst 3, 1) := by decide +kernel
theorem dX9_barred_102 : decode cX9_barred 102 = .ok (.invokevirtual 106, 3) := by decide +kernel
theorem dX9_barred_105 : decode cX9_barred 105 = .ok (.goto 4, 3) := by decide +kernel
theorem dX9_barred_108 : decode cX9_barred 108 = .ok (.iconst 0, 1) := by decide +kernel
theorem dX9_barred_109 : decode cX9_barred 109 = .ok (.ireturn, 1) := by decide +kernel
theorem dX9_noSpeaker_0 : decode cX9_noSpeaker 0 = .ok (.iload_n 1, 1) := by decide +kernel
theorem dX9_noSpeaker_1 : decode cX9_noSpeaker 1 = .ok (.i2l, 1) := by decide +kernel
theorem dX9_noSpeaker_2 : decode cX9_noSpeaker 2 = .ok (.lconst 0, 1) := by decide +kernel
theorem dX9_noSpeaker_3 : decode cX9_noSpeaker 3 = .ok (.aload_n 0, 1) := by decide +kernel
theorem dX9_noSpeaker_4 : decode cX9_noSpeaker 4 = .ok (.getfield 113, 3) := by decide +kernel
theorem dX9_noSpeaker_7 : decode cX9_noSpeaker 7 = .ok (.i2l, 1) := by decide +kernel
theorem dX9_noSpeaker_8 : decode cX9_noSpeaker 8 = .ok (.lconst 1, 1) := by decide +kernel
theorem dX9_noSpeaker_9 : decode cX9_noSpeaker 9 = .ok (.lsub, 1) := by decide +kernel
theorem dX9_noSpeaker_10 : decode cX9_noSpeaker 10 = .ok (.invokestatic 102, 3) := by decide +kernel
theorem dX9_noSpeaker_13 : decode cX9_noSpeaker 13 = .ok (.ifCond .ne 7, 3) := by decide +kernel
theorem dX9_noSpeaker_16 : decode cX9_noSpeaker 16 = .ok (.iconst 1, 1) := by decide +kernel
theorem dX9_noSpeaker_17 : decode cX9_noSpeaker 17 = .ok (.goto 4, 3) := by decide +kernel
theorem dX9_noSpeaker_20 : decode cX9_noSpeaker 20 = .ok (.iconst 0, 1) := by decide +kernel
theorem dX9_noSpeaker_21 : decode cX9_noSpeaker 21 = .ok (.ireturn, 1) := by decide +kernel
theorem dX9_noWord_0 : decode cX9_noWord 0 = .ok (.aload_n 0, 1) := by decide +kernel
theorem dX9_noWord_1 : decode cX9_noWord 1 = .ok (.iload_n 1, 1) := by decide +kernel
theorem dX9_noWord_2 : decode cX9_noWord 2 = .ok (.invokevirtual 116, 3) := by decide +kernel
theorem dX9_noWord_5 : decode cX9_noWord 5 = .ok (.ifCond .ne 21, 3) := by decide +kernel
theorem dX9_noWord_8 : decode cX9_noWord 8 = .ok (.iload_n 2, 1) := by decide +kernel
theorem dX9_noWord_9 : decode cX9_noWord 9 = .ok (.i2l, 1) := by decide +kernel
theorem dX9_noWord_10 : decode cX9_noWord 10 = .ok (.lconst 0, 1) := by decide +kernel
theorem dX9_noWord_11 : decode cX9_noWord 11 = .ok (.aload_n 0, 1) := by decide +kernel
theorem dX9_noWord_12 : decode cX9_noWord 12 = .ok (.getfield 13, 3) := by decide +kernel
theorem dX9_noWord_15 : decode cX9_noWord 15 = .ok (.iload_n 1, 1) := by decide +kernel
theorem dX9_noWord_16 : decode cX9_noWord 16 = .ok (.iaload, 1) := by decide +kernel
theorem dX9_noWord_17 : decode cX9_noWord 17 = .ok (.i2l, 1) := by decide +kernel
theorem dX9_noWord_18 : decode cX9_noWord 18 = .ok (.lconst 1, 1) := by decide +kernel
theorem dX9_noWord_19 : decode cX9_noWord 19 = .ok (.lsub, 1) := by decide +kernel
theorem dX9_noWord_20 : decode cX9_noWord 20 = .ok (.invokestatic 102, 3) := by decide +kernel
theorem dX9_noWord_23 : decode cX9_noWord 23 = .ok (.ifCond .ne 7, 3) := by decide +kernel
theorem dX9_noWord_26 : decode cX9_noWord 26 = .ok (.iconst 1, 1) := by decide +kernel
theorem dX9_noWord_27 : decode cX9_noWord 27 = .ok (.goto 4, 3) := by decide +kernel
theorem dX9_noWord_30 : decode cX9_noWord 30 = .ok (.iconst 0, 1) := by decide +kernel
theorem dX9_noWord_31 : decode cX9_noWord 31 = .ok (.ireturn, 1) := by decide +kernel
theorem dX9_codeAt_0 : decode cX9_codeAt 0 = .ok (.aload_n 0, 1) := by decide +kernel
theorem dX9_codeAt_1 : decode cX9_codeAt 1 = .ok (.getfield 119, 3) := by decide +kernel
theorem dX9_codeAt_4 : decode cX9_codeAt 4 = .ok (.iload_n 2, 1) := by decide +kernel
theorem dX9_codeAt_5 : decode cX9_codeAt 5 = .ok (.if_icmp .ge 17, 3) := by decide +kernel
theorem dX9_codeAt_8 : decode cX9_codeAt 8 = .ok (.aload_n 0, 1) := by decide +kernel
theorem dX9_codeAt_9 : decode cX9_codeAt 9 = .ok (.getfield 76, 3) := by decide +kernel
theorem dX9_codeAt_12 : decode cX9_codeAt 12 = .ok (.iload_n 1, 1) := by decide +kernel
theorem dX9_codeAt_13 : decode cX9_codeAt 13 = .ok (.aload_n 0, 1) := by decide +kernel
theorem dX9_codeAt_14 : decode cX9_codeAt 14 = .ok (.getfield 119, 3) := by decide +kernel
theorem dX9_codeAt_17 : decode cX9_codeAt 17 = .ok (.iadd, 1) := by decide +kernel
theorem dX9_codeAt_18 : decode cX9_codeAt 18 = .ok (.iaload, 1) := by decide +kernel
theorem dX9_codeAt_19 : decode cX9_codeAt 19 = .ok (.goto 5, 3) := by decide +kernel
theorem dX9_codeAt_22 : decode cX9_codeAt 22 = .ok (.bipush (-9), 2) := by decide +kernel
theorem dX9_codeAt_24 : decode cX9_codeAt 24 = .ok (.ireturn, 1) := by decide +kernel
theorem dX9_takes_0 : decode cX9_takes 0 = .ok (.aload_n 0, 1) := by decide +kernel
theorem dX9_takes_1 : decode cX9_takes 1 = .ok (.getfield 119, 3) := by decide +kernel
theorem dX9_takes_4 : decode cX9_takes 4 = .ok (.iload_n 3, 1) := by decide +kernel
theorem dX9_takes_5 : decode cX9_takes 5 = .ok (.if_icmp .ge 22, 3) := by decide +kernel
theorem dX9_takes_8 : decode cX9_takes 8 = .ok (.aload_n 0, 1) := by decide +kernel
theorem dX9_takes_9 : decode cX9_takes 9 = .ok (.getfield 76, 3) := by decide +kernel
theorem dX9_takes_12 : decode cX9_takes 12 = .ok (.iload_n 2, 1) := by decide +kernel
theorem dX9_takes_13 : decode cX9_takes 13 = .ok (.aload_n 0, 1) := by decide +kernel
theorem dX9_takes_14 : decode cX9_takes 14 = .ok (.getfield 119, 3) := by decide +kernel
theorem dX9_takes_17 : decode cX9_takes 17 = .ok (.iadd, 1) := by decide +kernel
theorem dX9_takes_18 : decode cX9_takes 18 = .ok (.iaload, 1) := by decide +kernel
theorem dX9_takes_19 : decode cX9_takes 19 = .ok (.iload_n 1, 1) := by decide +kernel
theorem dX9_takes_20 : decode cX9_takes 20 = .ok (.if_icmp .ne 7, 3) := by decide +kernel
theorem dX9_takes_23 : decode cX9_takes 23 = .ok (.iconst 1, 1) := by decide +kernel
theorem dX9_takes_24 : decode cX9_takes 24 = .ok (.goto 4, 3) := by decide +kernel
theorem dX9_takes_27 : decode cX9_takes 27 = .ok (.iconst 0, 1) := by decide +kernel
theorem dX9_takes_28 : decode cX9_takes 28 = .ok (.istore 4, 2) := by decide +kernel
theorem dX9_takes_30 : decode cX9_takes 30 = .ok (.aload_n 0, 1) := by decide +kernel
theorem dX9_takes_31 : decode cX9_takes 31 = .ok (.dup, 1) := by decide +kernel
theorem dX9_takes_32 : decode cX9_takes 32 = .ok (.getfield 119, 3) := by decide +kernel
theorem dX9_takes_35 : decode cX9_takes 35 = .ok (.iload 4, 2) := by decide +kernel
theorem dX9_takes_37 : decode cX9_takes 37 = .ok (.ifCond .eq 7, 3) := by decide +kernel
theorem dX9_takes_40 : decode cX9_takes 40 = .ok (.iconst 1, 1) := by decide +kernel
theorem dX9_takes_41 : decode cX9_takes 41 = .ok (.goto 4, 3) := by decide +kernel
theorem dX9_takes_44 : decode cX9_takes 44 = .ok (.iconst 0, 1) := by decide +kernel
theorem dX9_takes_45 : decode cX9_takes 45 = .ok (.iadd, 1) := by decide +kernel
theorem dX9_takes_46 : decode cX9_takes 46 = .ok (.putfield 119, 3) := by decide +kernel
theorem dX9_takes_49 : decode cX9_takes 49 = .ok (.iload 4, 2) := by decide +kernel
theorem dX9_takes_51 : decode cX9_takes 51 = .ok (.ireturn, 1) := by decide +kernel
theorem dX9_figureAt_0 : decode cX9_figureAt 0 = .ok (.iload_n 3, 1) := by decide +kernel
theorem dX9_figureAt_1 : decode cX9_figureAt 1 = .ok (.iload_n 2, 1) := by decide +kernel
theorem dX9_figureAt_2 : decode cX9_figureAt 2 = .ok (.if_icmp .ge 17, 3) := by decide +kernel
theorem dX9_figureAt_5 : decode cX9_figureAt 5 = .ok (.aload_n 0, 1) := by decide +kernel
theorem dX9_figureAt_6 : decode cX9_figureAt 6 = .ok (.getfield 76, 3) := by decide +kernel
theorem dX9_figureAt_9 : decode cX9_figureAt 9 = .ok (.iload_n 1, 1) := by decide +kernel
theorem dX9_figureAt_10 : decode cX9_figureAt 10 = .ok (.iload_n 3, 1) := by decide +kernel
theorem dX9_figureAt_11 : decode cX9_figureAt 11 = .ok (.iadd, 1) := by decide +kernel
theorem dX9_figureAt_12 : decode cX9_figureAt 12 = .ok (.iaload, 1) := by decide +kernel
theorem dX9_figureAt_13 : decode cX9_figureAt 13 = .ok (.bipush 48, 2) := by decide +kernel
theorem dX9_figureAt_15 : decode cX9_figureAt 15 = .ok (.isub, 1) := by decide +kernel
theorem dX9_figureAt_16 : decode cX9_figureAt 16 = .ok (.goto 5, 3) := by decide +kernel
theorem dX9_figureAt_19 : decode cX9_figureAt 19 = .ok (.bipush (-9), 2) := by decide +kernel
theorem dX9_figureAt_21 : decode cX9_figureAt 21 = .ok (.istore 4, 2) := by decide +kernel
theorem dX9_figureAt_23 : decode cX9_figureAt 23 = .ok (.iload 4, 2) := by decide +kernel
theorem dX9_figureAt_25 : decode cX9_figureAt 25 = .ok (.i2l, 1) := by decide +kernel
theorem dX9_figureAt_26 : decode cX9_figureAt 26 = .ok (.lconst 0, 1) := by decide +kernel
theorem dX9_figureAt_27 : decode cX9_figureAt 27 = .ok (.ldc2_w 122, 3) := by decide +kernel
theorem dX9_figureAt_30 : decode cX9_figureAt 30 = .ok (.invokestatic 102, 3) := by decide +kernel
theorem dX9_figureAt_33 : decode cX9_figureAt 33 = .ok (.ifCond .eq 8, 3) := by decide +kernel
theorem dX9_figureAt_36 : decode cX9_figureAt 36 = .ok (.iload 4, 2) := by decide +kernel
theorem dX9_figureAt_38 : decode cX9_figureAt 38 = .ok (.goto 5, 3) := by decide +kernel
theorem dX9_figureAt_41 : decode cX9_figureAt 41 = .ok (.bipush (-9), 2) := by decide +kernel
theorem dX9_figureAt_43 : decode cX9_figureAt 43 = .ok (.ireturn, 1) := by decide +kernel
theorem dX9_figure_0 : decode cX9_figure 0 = .ok (.aload_n 0, 1) := by decide +kernel
theorem dX9_figure_1 : decode cX9_figure 1 = .ok (.iload_n 1, 1) := by decide +kernel
theorem dX9_figure_2 : decode cX9_figure 2 = .ok (.iload_n 2, 1) := by decide +kernel
theorem dX9_figure_3 : decode cX9_figure 3 = .ok (.aload_n 0, 1) := by decide +kernel
theorem dX9_figure_4 : decode cX9_figure 4 = .ok (.getfield 119, 3) := by decide +kernel
theorem dX9_figure_7 : decode cX9_figure 7 = .ok (.invokevirtual 124, 3) := by decide +kernel
theorem dX9_figure_10 : decode cX9_figure 10 = .ok (.istore_n 3, 1) := by decide +kernel
theorem dX9_figure_11 : decode cX9_figure 11 = .ok (.aload_n 0, 1) := by decide +kernel
theorem dX9_figure_12 : decode cX9_figure 12 = .ok (.dup, 1) := by decide +kernel
theorem dX9_figure_13 : decode cX9_figure 13 = .ok (.getfield 119, 3) := by decide +kernel
theorem dX9_figure_16 : decode cX9_figure 16 = .ok (.iload_n 3, 1) := by decide +kernel
theorem dX9_figure_17 : decode cX9_figure 17 = .ok (.ifCond .ge 7, 3) := by decide +kernel
theorem dX9_figure_20 : decode cX9_figure 20 = .ok (.iconst 0, 1) := by decide +kernel
theorem dX9_figure_21 : decode cX9_figure 21 = .ok (.goto 4, 3) := by decide +kernel
theorem dX9_figure_24 : decode cX9_figure 24 = .ok (.iconst 1, 1) := by decide +kernel
theorem dX9_figure_25 : decode cX9_figure 25 = .ok (.iadd, 1) := by decide +kernel
theorem dX9_figure_26 : decode cX9_figure 26 = .ok (.putfield 119, 3) := by decide +kernel
theorem dX9_figure_29 : decode cX9_figure 29 = .ok (.iload_n 3, 1) := by decide +kernel
theorem dX9_figure_30 : decode cX9_figure 30 = .ok (.ireturn, 1) := by decide +kernel
theorem dX9_two_0 : decode cX9_two 0 = .ok (.aload_n 0, 1) := by decide +kernel
theorem dX9_two_1 : decode cX9_two 1 = .ok (.iload_n 1, 1) := by decide +kernel
theorem dX9_two_2 : decode cX9_two 2 = .ok (.iload_n 2, 1) := by decide +kernel
theorem dX9_two_3 : decode cX9_two 3 = .ok (.aload_n 0, 1) := by decide +kernel
theorem dX9_two_4 : decode cX9_two 4 = .ok (.getfield 119, 3) := by decide +kernel
theorem dX9_two_7 : decode cX9_two 7 = .ok (.invokevirtual 124, 3) := by decide +kernel
theorem dX9_two_10 : decode cX9_two 10 = .ok (.istore 4, 2) := by decide +kernel
theorem dX9_two_12 : decode cX9_two 12 = .ok (.iload 4, 2) := by decide +kernel
theorem dX9_two_14 : decode cX9_two 14 = .ok (.ifCond .lt 12, 3) := by decide +kernel
theorem dX9_two_17 : decode cX9_two 17 = .ok (.bipush 10, 2) := by decide +kernel
theorem dX9_two_19 : decode cX9_two 19 = .ok (.iload 4, 2) := by decide +kernel
theorem dX9_two_21 : decode cX9_two 21 = .ok (.imul, 1) := by decide +kernel
theorem dX9_two_22 : decode cX9_two 22 = .ok (.iload_n 3, 1) := by decide +kernel
theorem dX9_two_23 : decode cX9_two 23 = .ok (.if_icmp .le 6, 3) := by decide +kernel
theorem dX9_two_26 : decode cX9_two 26 = .ok (.bipush (-9), 2) := by decide +kernel
theorem dX9_two_28 : decode cX9_two 28 = .ok (.ireturn, 1) := by decide +kernel
theorem dX9_two_29 : decode cX9_two 29 = .ok (.aload_n 0, 1) := by decide +kernel
theorem dX9_two_30 : decode cX9_two 30 = .ok (.iload_n 1, 1) := by decide +kernel
theorem dX9_two_31 : decode cX9_two 31 = .ok (.iload_n 2, 1) := by decide +kernel
theorem dX9_two_32 : decode cX9_two 32 = .ok (.aload_n 0, 1) := by decide +kernel
theorem dX9_two_33 : decode cX9_two 33 = .ok (.getfield 119, 3) := by decide +kernel
theorem dX9_two_36 : decode cX9_two 36 = .ok (.iconst 1, 1) := by decide +kernel
theorem dX9_two_37 : decode cX9_two 37 = .ok (.iadd, 1) := by decide +kernel
theorem dX9_two_38 : decode cX9_two 38 = .ok (.invokevirtual 124, 3) := by decide +kernel
theorem dX9_two_41 : decode cX9_two 41 = .ok (.istore 5, 2) := by decide +kernel
theorem dX9_two_43 : decode cX9_two 43 = .ok (.iload 5, 2) := by decide +kernel
theorem dX9_two_45 : decode cX9_two 45 = .ok (.ifCond .ge 16, 3) := by decide +kernel
theorem dX9_two_48 : decode cX9_two 48 = .ok (.aload_n 0, 1) := by decide +kernel
theorem dX9_two_49 : decode cX9_two 49 = .ok (.dup, 1) := by decide +kernel
theorem dX9_two_50 : decode cX9_two 50 = .ok (.getfield 119, 3) := by decide +kernel
theorem dX9_two_53 : decode cX9_two 53 = .ok (.iconst 1, 1) := by decide +kernel
theorem dX9_two_54 : decode cX9_two 54 = .ok (.iadd, 1) := by decide +kernel
theorem dX9_two_55 : decode cX9_two 55 = .ok (.putfield 119, 3) := by decide +kernel
theorem dX9_two_58 : decode cX9_two 58 = .ok (.bipush (-9), 2) := by decide +kernel
theorem dX9_two_60 : decode cX9_two 60 = .ok (.ireturn, 1) := by decide +kernel
theorem dX9_two_61 : decode cX9_two 61 = .ok (.ldc2_w 128, 3) := by decide +kernel
theorem dX9_two_64 : decode cX9_two 64 = .ok (.iload 4, 2) := by decide +kernel
theorem dX9_two_66 : decode cX9_two 66 = .ok (.i2l, 1) := by decide +kernel
theorem dX9_two_67 : decode cX9_two 67 = .ok (.lmul, 1) := by decide +kernel
theorem dX9_two_68 : decode cX9_two 68 = .ok (.iload 5, 2) := by decide +kernel
theorem dX9_two_70 : decode cX9_two 70 = .ok (.i2l, 1) := by decide +kernel
theorem dX9_two_71 : decode cX9_two 71 = .ok (.ladd, 1) := by decide +kernel
theorem dX9_two_72 : decode cX9_two 72 = .ok (.lconst 1, 1) := by decide +kernel
theorem dX9_two_73 : decode cX9_two 73 = .ok (.iload_n 3, 1) := by decide +kernel
theorem dX9_two_74 : decode cX9_two 74 = .ok (.i2l, 1) := by decide +kernel
theorem dX9_two_75 : decode cX9_two 75 = .ok (.invokestatic 102, 3) := by decide +kernel
theorem dX9_two_78 : decode cX9_two 78 = .ok (.istore 6, 2) := by decide +kernel
theorem dX9_two_80 : decode cX9_two 80 = .ok (.aload_n 0, 1) := by decide +kernel
theorem dX9_two_81 : decode cX9_two 81 = .ok (.dup, 1) := by decide +kernel
theorem dX9_two_82 : decode cX9_two 82 = .ok (.getfield 119, 3) := by decide +kernel
theorem dX9_two_85 : decode cX9_two 85 = .ok (.iload 6, 2) := by decide +kernel
theorem dX9_two_87 : decode cX9_two 87 = .ok (.ifCond .eq 7, 3) := by decide +kernel
theorem dX9_two_90 : decode cX9_two 90 = .ok (.iconst 2, 1) := by decide +kernel
theorem dX9_two_91 : decode cX9_two 91 = .ok (.goto 4, 3) := by decide +kernel
theorem dX9_two_94 : decode cX9_two 94 = .ok (.iconst 0, 1) := by decide +kernel
theorem dX9_two_95 : decode cX9_two 95 = .ok (.iadd, 1) := by decide +kernel
theorem dX9_two_96 : decode cX9_two 96 = .ok (.putfield 119, 3) := by decide +kernel
theorem dX9_two_99 : decode cX9_two 99 = .ok (.iload 6, 2) := by decide +kernel
theorem dX9_two_101 : decode cX9_two 101 = .ok (.ifCond .eq 14, 3) := by decide +kernel
theorem dX9_two_104 : decode cX9_two 104 = .ok (.bipush 10, 2) := by decide +kernel
theorem dX9_two_106 : decode cX9_two 106 = .ok (.iload 4, 2) := by decide +kernel
theorem dX9_two_108 : decode cX9_two 108 = .ok (.imul, 1) := by decide +kernel
theorem dX9_two_109 : decode cX9_two 109 = .ok (.iload 5, 2) := by decide +kernel
theorem dX9_two_111 : decode cX9_two 111 = .ok (.iadd, 1) := by decide +kernel
theorem dX9_two_112 : decode cX9_two 112 = .ok (.goto 5, 3) := by decide +kernel
theorem dX9_two_115 : decode cX9_two 115 = .ok (.bipush (-9), 2) := by decide +kernel
theorem dX9_two_117 : decode cX9_two 117 = .ok (.ireturn, 1) := by decide +kernel
theorem dX9_readsWord_0 : decode cX9_readsWord 0 = .ok (.aload_n 0, 1) := by decide +kernel
theorem dX9_readsWord_1 : decode cX9_readsWord 1 = .ok (.getfield 130, 3) := by decide +kernel
theorem dX9_readsWord_4 : decode cX9_readsWord 4 = .ok (.istore_n 3, 1) := by decide +kernel
theorem dX9_readsWord_5 : decode cX9_readsWord 5 = .ok (.aload_n 0, 1) := by decide +kernel
theorem dX9_readsWord_6 : decode cX9_readsWord 6 = .ok (.getfield 31, 3) := by decide +kernel
theorem dX9_readsWord_9 : decode cX9_readsWord 9 = .ok (.iload_n 3, 1) := by decide +kernel
theorem dX9_readsWord_10 : decode cX9_readsWord 10 = .ok (.iaload, 1) := by decide +kernel
theorem dX9_readsWord_11 : decode cX9_readsWord 11 = .ok (.iconst 3, 1) := by decide +kernel
theorem dX9_readsWord_12 : decode cX9_readsWord 12 = .ok (.if_icmp .eq 14, 3) := by decide +kernel
theorem dX9_readsWord_15 : decode cX9_readsWord 15 = .ok (.aload_n 0, 1) := by decide +kernel
theorem dX9_readsWord_16 : decode cX9_readsWord 16 = .ok (.bipush 119, 2) := by decide +kernel
theorem dX9_readsWord_18 : decode cX9_readsWord 18 = .ok (.iload_n 1, 1) := by decide +kernel
theorem dX9_readsWord_19 : decode cX9_readsWord 19 = .ok (.iload_n 2, 1) := by decide +kernel
theorem dX9_readsWord_20 : decode cX9_readsWord 20 = .ok (.invokevirtual 133, 3) := by decide +kernel
theorem dX9_readsWord_23 : decode cX9_readsWord 23 = .ok (.ifCond .ne 5, 3) := by decide +kernel
theorem dX9_readsWord_26 : decode cX9_readsWord 26 = .ok (.iconst 0, 1) := by decide +kernel
theorem dX9_readsWord_27 : decode cX9_readsWord 27 = .ok (.ireturn, 1) := by decide +kernel
theorem dX9_readsWord_28 : decode cX9_readsWord 28 = .ok (.iconst 3, 1) := by decide +kernel
theorem dX9_readsWord_29 : decode cX9_readsWord 29 = .ok (.iload_n 3, 1) := by decide +kernel
theorem dX9_readsWord_30 : decode cX9_readsWord 30 = .ok (.imul, 1) := by decide +kernel
theorem dX9_readsWord_31 : decode cX9_readsWord 31 = .ok (.aload_n 0, 1) := by decide +kernel
theorem dX9_readsWord_32 : decode cX9_readsWord 32 = .ok (.getfield 31, 3) := by decide +kernel
theorem dX9_readsWord_35 : decode cX9_readsWord 35 = .ok (.iload_n 3, 1) := by decide +kernel
theorem dX9_readsWord_36 : decode cX9_readsWord 36 = .ok (.iaload, 1) := by decide +kernel
theorem dX9_readsWord_37 : decode cX9_readsWord 37 = .ok (.iadd, 1) := by decide +kernel
theorem dX9_readsWord_38 : decode cX9_readsWord 38 = .ok (.istore 4, 2) := by decide +kernel
theorem dX9_readsWord_40 : decode cX9_readsWord 40 = .ok (.aload_n 0, 1) := by decide +kernel
theorem dX9_readsWord_41 : decode cX9_readsWord 41 = .ok (.getfield 34, 3) := by decide +kernel
theorem dX9_readsWord_44 : decode cX9_readsWord 44 = .ok (.iload 4, 2) := by decide +kernel
theorem dX9_readsWord_46 : decode cX9_readsWord 46 = .ok (.aload_n 0, 1) := by decide +kernel
theorem dX9_readsWord_47 : decode cX9_readsWord 47 = .ok (.iload_n 1, 1) := by decide +kernel
theorem dX9_readsWord_48 : decode cX9_readsWord 48 = .ok (.iload_n 2, 1) := by decide +kernel
theorem dX9_readsWord_49 : decode cX9_readsWord 49 = .ok (.bipush 60, 2) := by decide +kernel
theorem dX9_readsWord_51 : decode cX9_readsWord 51 = .ok (.invokevirtual 137, 3) := by decide +kernel
theorem dX9_readsWord_54 : decode cX9_readsWord 54 = .ok (.iastore, 1) := by decide +kernel
theorem dX9_readsWord_55 : decode cX9_readsWord 55 = .ok (.aload_n 0, 1) := by decide +kernel
theorem dX9_readsWord_56 : decode cX9_readsWord 56 = .ok (.getfield 37, 3) := by decide +kernel
theorem dX9_readsWord_59 : decode cX9_readsWord 59 = .ok (.iload 4, 2) := by decide +kernel
theorem dX9_readsWord_61 : decode cX9_readsWord 61 = .ok (.aload_n 0, 1) := by decide +kernel
theorem dX9_readsWord_62 : decode cX9_readsWord 62 = .ok (.getfield 34, 3) := by decide +kernel
theorem dX9_readsWord_65 : decode cX9_readsWord 65 = .ok (.iload 4, 2) := by decide +kernel
theorem dX9_readsWord_67 : decode cX9_readsWord 67 = .ok (.iaload, 1) := by decide +kernel
theorem dX9_readsWord_68 : decode cX9_readsWord 68 = .ok (.ifCond .ge 8, 3) := by decide +kernel
theorem dX9_readsWord_71 : decode cX9_readsWord 71 = .ok (.bipush (-9), 2) := by decide +kernel
theorem dX9_readsWord_73 : decode cX9_readsWord 73 = .ok (.goto 9, 3) := by decide +kernel
theorem dX9_readsWord_76 : decode cX9_readsWord 76 = .ok (.aload_n 0, 1) := by decide +kernel
theorem dX9_readsWord_77 : decode cX9_readsWord 77 = .ok (.iload_n 1, 1) := by decide +kernel
theorem dX9_readsWord_78 : decode cX9_readsWord 78 = .ok (.iload_n 2, 1) := by decide +kernel
theorem dX9_readsWord_79 : decode cX9_readsWord 79 = .ok (.invokevirtual 140, 3) := by decide +kernel
theorem dX9_readsWord_82 : decode cX9_readsWord 82 = .ok (.iastore, 1) := by decide +kernel
theorem dX9_readsWord_83 : decode cX9_readsWord 83 = .ok (.aload_n 0, 1) := by decide +kernel
theorem dX9_readsWord_84 : decode cX9_readsWord 84 = .ok (.getfield 40, 3) := by decide +kernel
theorem dX9_readsWord_87 : decode cX9_readsWord 87 = .ok (.iload 4, 2) := by decide +kernel
theorem dX9_readsWord_89 : decode cX9_readsWord 89 = .ok (.aload_n 0, 1) := by decide +kernel
theorem dX9_readsWord_90 : decode cX9_readsWord 90 = .ok (.getfield 37, 3) := by decide +kernel
theorem dX9_readsWord_93 : decode cX9_readsWord 93 = .ok (.iload 4, 2) := by decide +kernel
theorem dX9_readsWord_95 : decode cX9_readsWord 95 = .ok (.iaload, 1) := by decide +kernel
theorem dX9_readsWord_96 : decode cX9_readsWord 96 = .ok (.ifCond .ge 8, 3) := by decide +kernel
theorem dX9_readsWord_99 : decode cX9_readsWord 99 = .ok (.bipush (-9), 2) := by decide +kernel
theorem dX9_readsWord_101 : decode cX9_readsWord 101 = .ok (.goto 9, 3) := by decide +kernel
theorem dX9_readsWord_104 : decode cX9_readsWord 104 = .ok (.aload_n 0, 1) := by decide +kernel
theorem dX9_readsWord_105 : decode cX9_readsWord 105 = .ok (.iload_n 1, 1) := by decide +kernel
theorem dX9_readsWord_106 : decode cX9_readsWord 106 = .ok (.iload_n 2, 1) := by decide +kernel
theorem dX9_readsWord_107 : decode cX9_readsWord 107 = .ok (.invokevirtual 140, 3) := by decide +kernel
theorem dX9_readsWord_110 : decode cX9_readsWord 110 = .ok (.iastore, 1) := by decide +kernel
theorem dX9_readsWord_111 : decode cX9_readsWord 111 = .ok (.aload_n 0, 1) := by decide +kernel
theorem dX9_readsWord_112 : decode cX9_readsWord 112 = .ok (.getfield 31, 3) := by decide +kernel
theorem dX9_readsWord_115 : decode cX9_readsWord 115 = .ok (.iload_n 3, 1) := by decide +kernel
theorem dX9_readsWord_116 : decode cX9_readsWord 116 = .ok (.dup2, 1) := by decide +kernel
theorem dX9_readsWord_117 : decode cX9_readsWord 117 = .ok (.iaload, 1) := by decide +kernel
theorem dX9_readsWord_118 : decode cX9_readsWord 118 = .ok (.iconst 1, 1) := by decide +kernel
theorem dX9_readsWord_119 : decode cX9_readsWord 119 = .ok (.iadd, 1) := by decide +kernel
theorem dX9_readsWord_120 : decode cX9_readsWord 120 = .ok (.iastore, 1) := by decide +kernel
theorem dX9_readsWord_121 : decode cX9_readsWord 121 = .ok (.aload_n 0, 1) := by decide +kernel
theorem dX9_readsWord_122 : decode cX9_readsWord 122 = .ok (.getfield 40, 3) := by decide +kernel
theorem dX9_readsWord_125 : decode cX9_readsWord 125 = .ok (.iload 4, 2) := by decide +kernel
theorem dX9_readsWord_127 : decode cX9_readsWord 127 = .ok (.iaload, 1) := by decide +kernel
theorem dX9_readsWord_128 : decode cX9_readsWord 128 = .ok (.ifCond .lt 7, 3) := by decide +kernel
theorem dX9_readsWord_131 : decode cX9_readsWord 131 = .ok (.iconst 1, 1) := by decide +kernel
theorem dX9_readsWord_132 : decode cX9_readsWord 132 = .ok (.goto 4, 3) := by decide +kernel
theorem dX9_readsWord_135 : decode cX9_readsWord 135 = .ok (.iconst 0, 1) := by decide +kernel
theorem dX9_readsWord_136 : decode cX9_readsWord 136 = .ok (.ireturn, 1) := by decide +kernel
theorem dX9_readsSpeaker_0 : decode cX9_readsSpeaker 0 = .ok (.aload_n 0, 1) := by decide +kernel
theorem dX9_readsSpeaker_1 : decode cX9_readsSpeaker 1 = .ok (.getfield 130, 3) := by decide +kernel
theorem dX9_readsSpeaker_4 : decode cX9_readsSpeaker 4 = .ok (.iconst 5, 1) := by decide +kernel
theorem dX9_readsSpeaker_5 : decode cX9_readsSpeaker 5 = .ok (.if_icmp .eq 14, 3) := by decide +kernel
theorem dX9_readsSpeaker_8 : decode cX9_readsSpeaker 8 = .ok (.aload_n 0, 1) := by decide +kernel
theorem dX9_readsSpeaker_9 : decode cX9_readsSpeaker 9 = .ok (.bipush 59, 2) := by decide +kernel
theorem dX9_readsSpeaker_11 : decode cX9_readsSpeaker 11 = .ok (.iload_n 1, 1) := by decide +kernel
theorem dX9_readsSpeaker_12 : decode cX9_readsSpeaker 12 = .ok (.iload_n 2, 1) := by decide +kernel
theorem dX9_readsSpeaker_13 : decode cX9_readsSpeaker 13 = .ok (.invokevirtual 133, 3) := by decide +kernel
theorem dX9_readsSpeaker_16 : decode cX9_readsSpeaker 16 = .ok (.ifCond .ne 5, 3) := by decide +kernel
theorem dX9_readsSpeaker_19 : decode cX9_readsSpeaker 19 = .ok (.iconst 0, 1) := by decide +kernel
theorem dX9_readsSpeaker_20 : decode cX9_readsSpeaker 20 = .ok (.ireturn, 1) := by decide +kernel
theorem dX9_readsSpeaker_21 : decode cX9_readsSpeaker 21 = .ok (.aload_n 0, 1) := by decide +kernel
theorem dX9_readsSpeaker_22 : decode cX9_readsSpeaker 22 = .ok (.iload_n 1, 1) := by decide +kernel
theorem dX9_readsSpeaker_23 : decode cX9_readsSpeaker 23 = .ok (.iload_n 2, 1) := by decide +kernel
theorem dX9_readsSpeaker_24 : decode cX9_readsSpeaker 24 = .ok (.invokevirtual 144, 3) := by decide +kernel
theorem dX9_readsSpeaker_27 : decode cX9_readsSpeaker 27 = .ok (.istore_n 3, 1) := by decide +kernel
theorem dX9_readsSpeaker_28 : decode cX9_readsSpeaker 28 = .ok (.iload_n 3, 1) := by decide +kernel
theorem dX9_readsSpeaker_29 : decode cX9_readsSpeaker 29 = .ok (.bipush 112, 2) := by decide +kernel
theorem dX9_readsSpeaker_31 : decode cX9_readsSpeaker 31 = .ok (.if_icmp .eq 17, 3) := by decide +kernel
theorem dX9_readsSpeaker_34 : decode cX9_readsSpeaker 34 = .ok (.iload_n 3, 1) := by decide +kernel
theorem dX9_readsSpeaker_35 : decode cX9_readsSpeaker 35 = .ok (.bipush 116, 2) := by decide +kernel
theorem dX9_readsSpeaker_37 : decode cX9_readsSpeaker 37 = .ok (.if_icmp .eq 11, 3) := by decide +kernel
theorem dX9_readsSpeaker_40 : decode cX9_readsSpeaker 40 = .ok (.iload_n 3, 1) := by decide +kernel
theorem dX9_readsSpeaker_41 : decode cX9_readsSpeaker 41 = .ok (.bipush 111, 2) := by decide +kernel
theorem dX9_readsSpeaker_43 : decode cX9_readsSpeaker 43 = .ok (.if_icmp .eq 5, 3) := by decide +kernel
theorem dX9_readsSpeaker_46 : decode cX9_readsSpeaker 46 = .ok (.iconst 0, 1) := by decide +kernel
theorem dX9_readsSpeaker_47 : decode cX9_readsSpeaker 47 = .ok (.ireturn, 1) := by decide +kernel
theorem dX9_readsSpeaker_48 : decode cX9_readsSpeaker 48 = .ok (.aload_n 0, 1) := by decide +kernel
theorem dX9_readsSpeaker_49 : decode cX9_readsSpeaker 49 = .ok (.dup, 1) := by decide +kernel
theorem dX9_readsSpeaker_50 : decode cX9_readsSpeaker 50 = .ok (.getfield 119, 3) := by decide +kernel
theorem dX9_readsSpeaker_53 : decode cX9_readsSpeaker 53 = .ok (.iconst 1, 1) := by decide +kernel
theorem dX9_readsSpeaker_54 : decode cX9_readsSpeaker 54 = .ok (.iadd, 1) := by decide +kernel
theorem dX9_readsSpeaker_55 : decode cX9_readsSpeaker 55 = .ok (.putfield 119, 3) := by decide +kernel
theorem dX9_readsSpeaker_58 : decode cX9_readsSpeaker 58 = .ok (.aload_n 0, 1) := by decide +kernel
theorem dX9_readsSpeaker_59 : decode cX9_readsSpeaker 59 = .ok (.getfield 130, 3) := by decide +kernel
theorem dX9_readsSpeaker_62 : decode cX9_readsSpeaker 62 = .ok (.istore 4, 2) := by decide +kernel
theorem dX9_readsSpeaker_64 : decode cX9_readsSpeaker 64 = .ok (.aload_n 0, 1) := by decide +kernel
theorem dX9_readsSpeaker_65 : decode cX9_readsSpeaker 65 = .ok (.getfield 28, 3) := by decide +kernel
theorem dX9_readsSpeaker_68 : decode cX9_readsSpeaker 68 = .ok (.iload 4, 2) := by decide +kernel
theorem dX9_readsSpeaker_70 : decode cX9_readsSpeaker 70 = .ok (.iload_n 3, 1) := by decide +kernel
theorem dX9_readsSpeaker_71 : decode cX9_readsSpeaker 71 = .ok (.bipush 112, 2) := by decide +kernel
theorem dX9_readsSpeaker_73 : decode cX9_readsSpeaker 73 = .ok (.if_icmp .ne 7, 3) := by decide +kernel
theorem dX9_readsSpeaker_76 : decode cX9_readsSpeaker 76 = .ok (.iconst 0, 1) := by decide +kernel
theorem dX9_readsSpeaker_77 : decode cX9_readsSpeaker 77 = .ok (.goto 14, 3) := by decide +kernel
theorem dX9_readsSpeaker_80 : decode cX9_readsSpeaker 80 = .ok (.iload_n 3, 1) := by decide +kernel
theorem dX9_readsSpeaker_81 : decode cX9_readsSpeaker 81 = .ok (.bipush 116, 2) := by decide +kernel
theorem dX9_readsSpeaker_83 : decode cX9_readsSpeaker 83 = .ok (.if_icmp .ne 7, 3) := by decide +kernel
theorem dX9_readsSpeaker_86 : decode cX9_readsSpeaker 86 = .ok (.iconst 1, 1) := by decide +kernel
theorem dX9_readsSpeaker_87 : decode cX9_readsSpeaker 87 = .ok (.goto 4, 3) := by decide +kernel
theorem dX9_readsSpeaker_90 : decode cX9_readsSpeaker 90 = .ok (.iconst 2, 1) := by decide +kernel
theorem dX9_readsSpeaker_91 : decode cX9_readsSpeaker 91 = .ok (.iastore, 1) := by decide +kernel
theorem dX9_readsSpeaker_92 : decode cX9_readsSpeaker 92 = .ok (.aload_n 0, 1) := by decide +kernel
theorem dX9_readsSpeaker_93 : decode cX9_readsSpeaker 93 = .ok (.getfield 31, 3) := by decide +kernel
theorem dX9_readsSpeaker_96 : decode cX9_readsSpeaker 96 = .ok (.iload 4, 2) := by decide +kernel
theorem dX9_readsSpeaker_98 : decode cX9_readsSpeaker 98 = .ok (.iconst 0, 1) := by decide +kernel
theorem dX9_readsSpeaker_99 : decode cX9_readsSpeaker 99 = .ok (.iastore, 1) := by decide +kernel
theorem dX9_readsSpeaker_100 : decode cX9_readsSpeaker 100 = .ok (.aload_n 0, 1) := by decide +kernel
theorem dX9_readsSpeaker_101 : decode cX9_readsSpeaker 101 = .ok (.iload_n 1, 1) := by decide +kernel
theorem dX9_readsSpeaker_102 : decode cX9_readsSpeaker 102 = .ok (.iload_n 2, 1) := by decide +kernel
theorem dX9_readsSpeaker_103 : decode cX9_readsSpeaker 103 = .ok (.invokevirtual 147, 3) := by decide +kernel
theorem dX9_readsSpeaker_106 : decode cX9_readsSpeaker 106 = .ok (.istore 5, 2) := by decide +kernel
theorem dX9_readsSpeaker_108 : decode cX9_readsSpeaker 108 = .ok (.iload 5, 2) := by decide +kernel
theorem dX9_readsSpeaker_110 : decode cX9_readsSpeaker 110 = .ok (.ifCond .eq 25, 3) := by decide +kernel
theorem dX9_readsSpeaker_113 : decode cX9_readsSpeaker 113 = .ok (.aload_n 0, 1) := by decide +kernel
theorem dX9_readsSpeaker_114 : decode cX9_readsSpeaker 114 = .ok (.iload_n 1, 1) := by decide +kernel
theorem dX9_readsSpeaker_115 : decode cX9_readsSpeaker 115 = .ok (.iload_n 2, 1) := by decide +kernel
theorem dX9_readsSpeaker_116 : decode cX9_readsSpeaker 116 = .ok (.invokevirtual 144, 3) := by decide +kernel
theorem dX9_readsSpeaker_119 : decode cX9_readsSpeaker 119 = .ok (.bipush 119, 2) := by decide +kernel
theorem dX9_readsSpeaker_121 : decode cX9_readsSpeaker 121 = .ok (.if_icmp .ne 14, 3) := by decide +kernel
theorem dX9_readsSpeaker_124 : decode cX9_readsSpeaker 124 = .ok (.aload_n 0, 1) := by decide +kernel
theorem dX9_readsSpeaker_125 : decode cX9_readsSpeaker 125 = .ok (.iload_n 1, 1) := by decide +kernel
theorem dX9_readsSpeaker_126 : decode cX9_readsSpeaker 126 = .ok (.iload_n 2, 1) := by decide +kernel
theorem dX9_readsSpeaker_127 : decode cX9_readsSpeaker 127 = .ok (.invokevirtual 147, 3) := by decide +kernel
theorem dX9_readsSpeaker_130 : decode cX9_readsSpeaker 130 = .ok (.istore 5, 2) := by decide +kernel
theorem dX9_readsSpeaker_132 : decode cX9_readsSpeaker 132 = .ok (.goto (-24), 3) := by decide +kernel
theorem dX9_readsSpeaker_135 : decode cX9_readsSpeaker 135 = .ok (.aload_n 0, 1) := by decide +kernel
theorem dX9_readsSpeaker_136 : decode cX9_readsSpeaker 136 = .ok (.dup, 1) := by decide +kernel
theorem dX9_readsSpeaker_137 : decode cX9_readsSpeaker 137 = .ok (.getfield 130, 3) := by decide +kernel
theorem dX9_readsSpeaker_140 : decode cX9_readsSpeaker 140 = .ok (.iload 5, 2) := by decide +kernel
theorem dX9_readsSpeaker_142 : decode cX9_readsSpeaker 142 = .ok (.ifCond .eq 7, 3) := by decide +kernel
theorem dX9_readsSpeaker_145 : decode cX9_readsSpeaker 145 = .ok (.iconst 1, 1) := by decide +kernel
theorem dX9_readsSpeaker_146 : decode cX9_readsSpeaker 146 = .ok (.goto 4, 3) := by decide +kernel
theorem dX9_readsSpeaker_149 : decode cX9_readsSpeaker 149 = .ok (.iconst 0, 1) := by decide +kernel
theorem dX9_readsSpeaker_150 : decode cX9_readsSpeaker 150 = .ok (.iadd, 1) := by decide +kernel
theorem dX9_readsSpeaker_151 : decode cX9_readsSpeaker 151 = .ok (.putfield 130, 3) := by decide +kernel
theorem dX9_readsSpeaker_154 : decode cX9_readsSpeaker 154 = .ok (.iload 5, 2) := by decide +kernel
theorem dX9_readsSpeaker_156 : decode cX9_readsSpeaker 156 = .ok (.ireturn, 1) := by decide +kernel
theorem dX9_readsCouncil_0 : decode cX9_readsCouncil 0 = .ok (.aload_n 0, 1) := by decide +kernel
theorem dX9_readsCouncil_1 : decode cX9_readsCouncil 1 = .ok (.iconst 0, 1) := by decide +kernel
theorem dX9_readsCouncil_2 : decode cX9_readsCouncil 2 = .ok (.putfield 119, 3) := by decide +kernel
theorem dX9_readsCouncil_5 : decode cX9_readsCouncil 5 = .ok (.aload_n 0, 1) := by decide +kernel
theorem dX9_readsCouncil_6 : decode cX9_readsCouncil 6 = .ok (.iconst 0, 1) := by decide +kernel
theorem dX9_readsCouncil_7 : decode cX9_readsCouncil 7 = .ok (.putfield 130, 3) := by decide +kernel
theorem dX9_readsCouncil_10 : decode cX9_readsCouncil 10 = .ok (.aload_n 0, 1) := by decide +kernel
theorem dX9_readsCouncil_11 : decode cX9_readsCouncil 11 = .ok (.aload_n 0, 1) := by decide +kernel
theorem dX9_readsCouncil_12 : decode cX9_readsCouncil 12 = .ok (.bipush 106, 2) := by decide +kernel
theorem dX9_readsCouncil_14 : decode cX9_readsCouncil 14 = .ok (.iload_n 1, 1) := by decide +kernel
theorem dX9_readsCouncil_15 : decode cX9_readsCouncil 15 = .ok (.iload_n 2, 1) := by decide +kernel
theorem dX9_readsCouncil_16 : decode cX9_readsCouncil 16 = .ok (.invokevirtual 133, 3) := by decide +kernel
theorem dX9_readsCouncil_19 : decode cX9_readsCouncil 19 = .ok (.ifCond .eq 14, 3) := by decide +kernel
theorem dX9_readsCouncil_22 : decode cX9_readsCouncil 22 = .ok (.aload_n 0, 1) := by decide +kernel
theorem dX9_readsCouncil_23 : decode cX9_readsCouncil 23 = .ok (.iload_n 1, 1) := by decide +kernel
theorem dX9_readsCouncil_24 : decode cX9_readsCouncil 24 = .ok (.iload_n 2, 1) := by decide +kernel
theorem dX9_readsCouncil_25 : decode cX9_readsCouncil 25 = .ok (.bipush 99, 2) := by decide +kernel
theorem dX9_readsCouncil_27 : decode cX9_readsCouncil 27 = .ok (.invokevirtual 137, 3) := by decide +kernel
theorem dX9_readsCouncil_30 : decode cX9_readsCouncil 30 = .ok (.goto 5, 3) := by decide +kernel
theorem dX9_readsCouncil_33 : decode cX9_readsCouncil 33 = .ok (.bipush (-9), 2) := by decide +kernel
theorem dX9_readsCouncil_35 : decode cX9_readsCouncil 35 = .ok (.putfield 151, 3) := by decide +kernel
theorem dX9_readsCouncil_38 : decode cX9_readsCouncil 38 = .ok (.aload_n 0, 1) := by decide +kernel
theorem dX9_readsCouncil_39 : decode cX9_readsCouncil 39 = .ok (.getfield 151, 3) := by decide +kernel
theorem dX9_readsCouncil_42 : decode cX9_readsCouncil 42 = .ok (.ifCond .lt 25, 3) := by decide +kernel
theorem dX9_readsCouncil_45 : decode cX9_readsCouncil 45 = .ok (.aload_n 0, 1) := by decide +kernel
theorem dX9_readsCouncil_46 : decode cX9_readsCouncil 46 = .ok (.bipush 59, 2) := by decide +kernel
theorem dX9_readsCouncil_48 : decode cX9_readsCouncil 48 = .ok (.iload_n 1, 1) := by decide +kernel
theorem dX9_readsCouncil_49 : decode cX9_readsCouncil 49 = .ok (.iload_n 2, 1) := by decide +kernel
theorem dX9_readsCouncil_50 : decode cX9_readsCouncil 50 = .ok (.invokevirtual 133, 3) := by decide +kernel
theorem dX9_readsCouncil_53 : decode cX9_readsCouncil 53 = .ok (.ifCond .eq 14, 3) := by decide +kernel
theorem dX9_readsCouncil_56 : decode cX9_readsCouncil 56 = .ok (.aload_n 0, 1) := by decide +kernel
theorem dX9_readsCouncil_57 : decode cX9_readsCouncil 57 = .ok (.bipush 108, 2) := by decide +kernel
theorem dX9_readsCouncil_59 : decode cX9_readsCouncil 59 = .ok (.iload_n 1, 1) := by decide +kernel
theorem dX9_readsCouncil_60 : decode cX9_readsCouncil 60 = .ok (.iload_n 2, 1) := by decide +kernel
theorem dX9_readsCouncil_61 : decode cX9_readsCouncil 61 = .ok (.invokevirtual 133, 3) := by decide +kernel
theorem dX9_readsCouncil_64 : decode cX9_readsCouncil 64 = .ok (.ifCond .ne 5, 3) := by decide +kernel
theorem dX9_readsCouncil_67 : decode cX9_readsCouncil 67 = .ok (.iconst 0, 1) := by decide +kernel
theorem dX9_readsCouncil_68 : decode cX9_readsCouncil 68 = .ok (.ireturn, 1) := by decide +kernel
theorem dX9_readsCouncil_69 : decode cX9_readsCouncil 69 = .ok (.aload_n 0, 1) := by decide +kernel
theorem dX9_readsCouncil_70 : decode cX9_readsCouncil 70 = .ok (.aload_n 0, 1) := by decide +kernel
theorem dX9_readsCouncil_71 : decode cX9_readsCouncil 71 = .ok (.iload_n 1, 1) := by decide +kernel
theorem dX9_readsCouncil_72 : decode cX9_readsCouncil 72 = .ok (.iload_n 2, 1) := by decide +kernel
theorem dX9_readsCouncil_73 : decode cX9_readsCouncil 73 = .ok (.invokevirtual 140, 3) := by decide +kernel
theorem dX9_readsCouncil_76 : decode cX9_readsCouncil 76 = .ok (.putfield 154, 3) := by decide +kernel
theorem dX9_readsCouncil_79 : decode cX9_readsCouncil 79 = .ok (.aload_n 0, 1) := by decide +kernel
theorem dX9_readsCouncil_80 : decode cX9_readsCouncil 80 = .ok (.getfield 154, 3) := by decide +kernel
theorem dX9_readsCouncil_83 : decode cX9_readsCouncil 83 = .ok (.ifCond .lt 7, 3) := by decide +kernel
theorem dX9_readsCouncil_86 : decode cX9_readsCouncil 86 = .ok (.iconst 1, 1) := by decide +kernel
theorem dX9_readsCouncil_87 : decode cX9_readsCouncil 87 = .ok (.goto 4, 3) := by decide +kernel
theorem dX9_readsCouncil_90 : decode cX9_readsCouncil 90 = .ok (.iconst 0, 1) := by decide +kernel
theorem dX9_readsCouncil_91 : decode cX9_readsCouncil 91 = .ok (.istore_n 3, 1) := by decide +kernel
theorem dX9_readsCouncil_92 : decode cX9_readsCouncil 92 = .ok (.iload_n 3, 1) := by decide +kernel
theorem dX9_readsCouncil_93 : decode cX9_readsCouncil 93 = .ok (.ifCond .eq 29, 3) := by decide +kernel
theorem dX9_readsCouncil_96 : decode cX9_readsCouncil 96 = .ok (.aload_n 0, 1) := by decide +kernel
theorem dX9_readsCouncil_97 : decode cX9_readsCouncil 97 = .ok (.getfield 130, 3) := by decide +kernel
theorem dX9_readsCouncil_100 : decode cX9_readsCouncil 100 = .ok (.iconst 2, 1) := by decide +kernel
theorem dX9_readsCouncil_101 : decode cX9_readsCouncil 101 = .ok (.if_icmp .lt 11, 3) := by decide +kernel
theorem dX9_readsCouncil_104 : decode cX9_readsCouncil 104 = .ok (.aload_n 0, 1) := by decide +kernel
theorem dX9_readsCouncil_105 : decode cX9_readsCouncil 105 = .ok (.getfield 119, 3) := by decide +kernel
theorem dX9_readsCouncil_108 : decode cX9_readsCouncil 108 = .ok (.iload_n 2, 1) := by decide +kernel
theorem dX9_readsCouncil_109 : decode cX9_readsCouncil 109 = .ok (.if_icmp .ge 13, 3) := by decide +kernel
theorem dX9_readsCouncil_112 : decode cX9_readsCouncil 112 = .ok (.aload_n 0, 1) := by decide +kernel
theorem dX9_readsCouncil_113 : decode cX9_readsCouncil 113 = .ok (.iload_n 1, 1) := by decide +kernel
theorem dX9_readsCouncil_114 : decode cX9_readsCouncil 114 = .ok (.iload_n 2, 1) := by decide +kernel
theorem dX9_readsCouncil_115 : decode cX9_readsCouncil 115 = .ok (.invokevirtual 157, 3) := by decide +kernel
theorem dX9_readsCouncil_118 : decode cX9_readsCouncil 118 = .ok (.istore_n 3, 1) := by decide +kernel
theorem dX9_readsCouncil_119 : decode cX9_readsCouncil 119 = .ok (.goto (-27), 3) := by decide +kernel
theorem dX9_readsCouncil_122 : decode cX9_readsCouncil 122 = .ok (.iload_n 3, 1) := by decide +kernel
theorem dX9_readsCouncil_123 : decode cX9_readsCouncil 123 = .ok (.ireturn, 1) := by decide +kernel
theorem dX9_council_0 : decode cX9_council 0 = .ok (.aload_n 0, 1) := by decide +kernel
theorem dX9_council_1 : decode cX9_council 1 = .ok (.iload_n 1, 1) := by decide +kernel
theorem dX9_council_2 : decode cX9_council 2 = .ok (.iload_n 2, 1) := by decide +kernel
theorem dX9_council_3 : decode cX9_council 3 = .ok (.iload_n 3, 1) := by decide +kernel
theorem dX9_council_4 : decode cX9_council 4 = .ok (.iload 4, 2) := by decide +kernel
theorem dX9_council_6 : decode cX9_council 6 = .ok (.i2l, 1) := by decide +kernel
theorem dX9_council_7 : decode cX9_council 7 = .ok (.invokevirtual 160, 3) := by decide +kernel
theorem dX9_council_10 : decode cX9_council 10 = .ok (.istore 5, 2) := by decide +kernel
theorem dX9_council_12 : decode cX9_council 12 = .ok (.iload 5, 2) := by decide +kernel
theorem dX9_council_14 : decode cX9_council 14 = .ok (.ifCond .ge 6, 3) := by decide +kernel
theorem dX9_council_17 : decode cX9_council 17 = .ok (.iload 5, 2) := by decide +kernel
theorem dX9_council_19 : decode cX9_council 19 = .ok (.ireturn, 1) := by decide +kernel
theorem dX9_council_20 : decode cX9_council 20 = .ok (.aload_n 0, 1) := by decide +kernel
theorem dX9_council_21 : decode cX9_council 21 = .ok (.bipush 100, 2) := by decide +kernel
theorem dX9_council_23 : decode cX9_council 23 = .ok (.iload_n 1, 1) := by decide +kernel
theorem dX9_council_24 : decode cX9_council 24 = .ok (.imul, 1) := by decide +kernel
theorem dX9_council_25 : decode cX9_council 25 = .ok (.iload_n 3, 1) := by decide +kernel
theorem dX9_council_26 : decode cX9_council 26 = .ok (.iadd, 1) := by decide +kernel
theorem dX9_council_27 : decode cX9_council 27 = .ok (.iload 4, 2) := by decide +kernel
theorem dX9_council_29 : decode cX9_council 29 = .ok (.invokevirtual 164, 3) := by decide +kernel
theorem dX9_council_32 : decode cX9_council 32 = .ok (.ifCond .ne 15, 3) := by decide +kernel
theorem dX9_council_35 : decode cX9_council 35 = .ok (.aload_n 0, 1) := by decide +kernel
theorem dX9_council_36 : decode cX9_council 36 = .ok (.bipush (-100), 2) := by decide +kernel
theorem dX9_council_38 : decode cX9_council 38 = .ok (.aload_n 0, 1) := by decide +kernel
theorem dX9_council_39 : decode cX9_council 39 = .ok (.getfield 119, 3) := by decide +kernel
theorem dX9_council_42 : decode cX9_council 42 = .ok (.isub, 1) := by decide +kernel
theorem dX9_council_43 : decode cX9_council 43 = .ok (.invokevirtual 96, 3) := by decide +kernel
theorem dX9_council_46 : decode cX9_council 46 = .ok (.ireturn, 1) := by decide +kernel
theorem dX9_council_47 : decode cX9_council 47 = .ok (.aload_n 0, 1) := by decide +kernel
theorem dX9_council_48 : decode cX9_council 48 = .ok (.aload_n 0, 1) := by decide +kernel
theorem dX9_council_49 : decode cX9_council 49 = .ok (.getfield 130, 3) := by decide +kernel
theorem dX9_council_52 : decode cX9_council 52 = .ok (.putfield 113, 3) := by decide +kernel
theorem dX9_council_55 : decode cX9_council 55 = .ok (.aload_n 0, 1) := by decide +kernel
theorem dX9_council_56 : decode cX9_council 56 = .ok (.aload_n 0, 1) := by decide +kernel
theorem dX9_council_57 : decode cX9_council 57 = .ok (.getfield 151, 3) := by decide +kernel
theorem dX9_council_60 : decode cX9_council 60 = .ok (.putfield 167, 3) := by decide +kernel
theorem dX9_council_63 : decode cX9_council 63 = .ok (.aload_n 0, 1) := by decide +kernel
theorem dX9_council_64 : decode cX9_council 64 = .ok (.aload_n 0, 1) := by decide +kernel
theorem dX9_council_65 : decode cX9_council 65 = .ok (.getfield 154, 3) := by decide +kernel
theorem dX9_council_68 : decode cX9_council 68 = .ok (.putfield 170, 3) := by decide +kernel
theorem dX9_council_71 : decode cX9_council 71 = .ok (.aload_n 0, 1) := by decide +kernel
theorem dX9_council_72 : decode cX9_council 72 = .ok (.iconst 0, 1) := by decide +kernel
theorem dX9_council_73 : decode cX9_council 73 = .ok (.putfield 173, 3) := by decide +kernel
theorem dX9_council_76 : decode cX9_council 76 = .ok (.aload_n 0, 1) := by decide +kernel
theorem dX9_council_77 : decode cX9_council 77 = .ok (.iconst 0, 1) := by decide +kernel
theorem dX9_council_78 : decode cX9_council 78 = .ok (.putfield 176, 3) := by decide +kernel
theorem dX9_council_81 : decode cX9_council 81 = .ok (.iconst 0, 1) := by decide +kernel
theorem dX9_council_82 : decode cX9_council 82 = .ok (.istore 6, 2) := by decide +kernel
theorem dX9_council_84 : decode cX9_council 84 = .ok (.iload 6, 2) := by decide +kernel
theorem dX9_council_86 : decode cX9_council 86 = .ok (.aload_n 0, 1) := by decide +kernel
theorem dX9_council_87 : decode cX9_council 87 = .ok (.getfield 113, 3) := by decide +kernel
theorem dX9_council_90 : decode cX9_council 90 = .ok (.if_icmp .ge 46, 3) := by decide +kernel
theorem dX9_council_93 : decode cX9_council 93 = .ok (.aload_n 0, 1) := by decide +kernel
theorem dX9_council_94 : decode cX9_council 94 = .ok (.getfield 7, 3) := by decide +kernel
theorem dX9_council_97 : decode cX9_council 97 = .ok (.iload 6, 2) := by decide +kernel
theorem dX9_council_99 : decode cX9_council 99 = .ok (.aload_n 0, 1) := by decide +kernel
theorem dX9_council_100 : decode cX9_council 100 = .ok (.getfield 28, 3) := by decide +kernel
theorem dX9_council_103 : decode cX9_council 103 = .ok (.iload 6, 2) := by decide +kernel
theorem dX9_council_105 : decode cX9_council 105 = .ok (.iaload, 1) := by decide +kernel
theorem dX9_council_106 : decode cX9_council 106 = .ok (.iastore, 1) := by decide +kernel
theorem dX9_council_107 : decode cX9_council 107 = .ok (.aload_n 0, 1) := by decide +kernel
theorem dX9_council_108 : decode cX9_council 108 = .ok (.getfield 13, 3) := by decide +kernel
theorem dX9_council_111 : decode cX9_council 111 = .ok (.iload 6, 2) := by decide +kernel
theorem dX9_council_113 : decode cX9_council 113 = .ok (.aload_n 0, 1) := by decide +kernel
theorem dX9_council_114 : decode cX9_council 114 = .ok (.getfield 31, 3) := by decide +kernel
theorem dX9_council_117 : decode cX9_council 117 = .ok (.iload 6, 2) := by decide +kernel
theorem dX9_council_119 : decode cX9_council 119 = .ok (.iaload, 1) := by decide +kernel
theorem dX9_council_120 : decode cX9_council 120 = .ok (.iastore, 1) := by decide +kernel
theorem dX9_council_121 : decode cX9_council 121 = .ok (.aload_n 0, 1) := by decide +kernel
theorem dX9_council_122 : decode cX9_council 122 = .ok (.getfield 25, 3) := by decide +kernel
theorem dX9_council_125 : decode cX9_council 125 = .ok (.iload 6, 2) := by decide +kernel
theorem dX9_council_127 : decode cX9_council 127 = .ok (.iload 6, 2) := by decide +kernel
theorem dX9_council_129 : decode cX9_council 129 = .ok (.iastore, 1) := by decide +kernel
theorem dX9_council_130 : decode cX9_council 130 = .ok (.iinc 6 1, 3) := by decide +kernel
theorem dX9_council_133 : decode cX9_council 133 = .ok (.goto (-49), 3) := by decide +kernel
theorem dX9_council_136 : decode cX9_council 136 = .ok (.iconst 0, 1) := by decide +kernel
theorem dX9_council_137 : decode cX9_council 137 = .ok (.istore 6, 2) := by decide +kernel
theorem dX9_council_139 : decode cX9_council 139 = .ok (.iload 6, 2) := by decide +kernel
theorem dX9_council_141 : decode cX9_council 141 = .ok (.bipush 15, 2) := by decide +kernel
theorem dX9_council_143 : decode cX9_council 143 = .ok (.if_icmp .ge 51, 3) := by decide +kernel
theorem dX9_council_146 : decode cX9_council 146 = .ok (.aload_n 0, 1) := by decide +kernel
theorem dX9_council_147 : decode cX9_council 147 = .ok (.getfield 16, 3) := by decide +kernel
theorem dX9_council_150 : decode cX9_council 150 = .ok (.iload 6, 2) := by decide +kernel
theorem dX9_council_152 : decode cX9_council 152 = .ok (.aload_n 0, 1) := by decide +kernel
theorem dX9_council_153 : decode cX9_council 153 = .ok (.getfield 34, 3) := by decide +kernel
theorem dX9_council_156 : decode cX9_council 156 = .ok (.iload 6, 2) := by decide +kernel
theorem dX9_council_158 : decode cX9_council 158 = .ok (.iaload, 1) := by decide +kernel
theorem dX9_council_159 : decode cX9_council 159 = .ok (.iastore, 1) := by decide +kernel
theorem dX9_council_160 : decode cX9_council 160 = .ok (.aload_n 0, 1) := by decide +kernel
theorem dX9_council_161 : decode cX9_council 161 = .ok (.getfield 19, 3) := by decide +kernel
theorem dX9_council_164 : decode cX9_council 164 = .ok (.iload 6, 2) := by decide +kernel
theorem dX9_council_166 : decode cX9_council 166 = .ok (.aload_n 0, 1) := by decide +kernel
theorem dX9_council_167 : decode cX9_council 167 = .ok (.getfield 37, 3) := by decide +kernel
theorem dX9_council_170 : decode cX9_council 170 = .ok (.iload 6, 2) := by decide +kernel
theorem dX9_council_172 : decode cX9_council 172 = .ok (.iaload, 1) := by decide +kernel
theorem dX9_council_173 : decode cX9_council 173 = .ok (.iastore, 1) := by decide +kernel
theorem dX9_council_174 : decode cX9_council 174 = .ok (.aload_n 0, 1) := by decide +kernel
theorem dX9_council_175 : decode cX9_council 175 = .ok (.getfield 22, 3) := by decide +kernel
theorem dX9_council_178 : decode cX9_council 178 = .ok (.iload 6, 2) := by decide +kernel
theorem dX9_council_180 : decode cX9_council 180 = .ok (.aload_n 0, 1) := by decide +kernel
theorem dX9_council_181 : decode cX9_council 181 = .ok (.getfield 40, 3) := by decide +kernel
theorem dX9_council_184 : decode cX9_council 184 = .ok (.iload 6, 2) := by decide +kernel
theorem dX9_council_186 : decode cX9_council 186 = .ok (.iaload, 1) := by decide +kernel
theorem dX9_council_187 : decode cX9_council 187 = .ok (.iastore, 1) := by decide +kernel
theorem dX9_council_188 : decode cX9_council 188 = .ok (.iinc 6 1, 3) := by decide +kernel
theorem dX9_council_191 : decode cX9_council 191 = .ok (.goto (-52), 3) := by decide +kernel
theorem dX9_council_194 : decode cX9_council 194 = .ok (.aload_n 0, 1) := by decide +kernel
theorem dX9_council_195 : decode cX9_council 195 = .ok (.aload_n 0, 1) := by decide +kernel
theorem dX9_council_196 : decode cX9_council 196 = .ok (.getfield 113, 3) := by decide +kernel
theorem dX9_council_199 : decode cX9_council 199 = .ok (.invokevirtual 96, 3) := by decide +kernel
theorem dX9_council_202 : decode cX9_council 202 = .ok (.ireturn, 1) := by decide +kernel
theorem dX9_placeOf_0 : decode cX9_placeOf 0 = .ok (.iconst 0, 1) := by decide +kernel
theorem dX9_placeOf_1 : decode cX9_placeOf 1 = .ok (.istore_n 2, 1) := by decide +kernel
theorem dX9_placeOf_2 : decode cX9_placeOf 2 = .ok (.iconst 0, 1) := by decide +kernel
theorem dX9_placeOf_3 : decode cX9_placeOf 3 = .ok (.istore_n 3, 1) := by decide +kernel
theorem dX9_placeOf_4 : decode cX9_placeOf 4 = .ok (.iload_n 3, 1) := by decide +kernel
theorem dX9_placeOf_5 : decode cX9_placeOf 5 = .ok (.aload_n 0, 1) := by decide +kernel
theorem dX9_placeOf_6 : decode cX9_placeOf 6 = .ok (.getfield 113, 3) := by decide +kernel
theorem dX9_placeOf_9 : decode cX9_placeOf 9 = .ok (.if_icmp .ge 25, 3) := by decide +kernel
theorem dX9_placeOf_12 : decode cX9_placeOf 12 = .ok (.aload_n 0, 1) := by decide +kernel
theorem dX9_placeOf_13 : decode cX9_placeOf 13 = .ok (.getfield 25, 3) := by decide +kernel
theorem dX9_placeOf_16 : decode cX9_placeOf 16 = .ok (.iload_n 3, 1) := by decide +kernel
theorem dX9_placeOf_17 : decode cX9_placeOf 17 = .ok (.iaload, 1) := by decide +kernel
theorem dX9_placeOf_18 : decode cX9_placeOf 18 = .ok (.iload_n 1, 1) := by decide +kernel
theorem dX9_placeOf_19 : decode cX9_placeOf 19 = .ok (.if_icmp .ne 7, 3) := by decide +kernel
theorem dX9_placeOf_22 : decode cX9_placeOf 22 = .ok (.iload_n 3, 1) := by decide +kernel
theorem dX9_placeOf_23 : decode cX9_placeOf 23 = .ok (.goto 4, 3) := by decide +kernel
theorem dX9_placeOf_26 : decode cX9_placeOf 26 = .ok (.iload_n 2, 1) := by decide +kernel
theorem dX9_placeOf_27 : decode cX9_placeOf 27 = .ok (.istore_n 2, 1) := by decide +kernel
theorem dX9_placeOf_28 : decode cX9_placeOf 28 = .ok (.iinc 3 1, 3) := by decide +kernel
theorem dX9_placeOf_31 : decode cX9_placeOf 31 = .ok (.goto (-27), 3) := by decide +kernel
theorem dX9_placeOf_34 : decode cX9_placeOf 34 = .ok (.iload_n 2, 1) := by decide +kernel
theorem dX9_placeOf_35 : decode cX9_placeOf 35 = .ok (.ireturn, 1) := by decide +kernel
theorem dX9_ofSpeaker_0 : decode cX9_ofSpeaker 0 = .ok (.aload_n 0, 1) := by decide +kernel
theorem dX9_ofSpeaker_1 : decode cX9_ofSpeaker 1 = .ok (.iload_n 1, 1) := by decide +kernel
theorem dX9_ofSpeaker_2 : decode cX9_ofSpeaker 2 = .ok (.invokevirtual 116, 3) := by decide +kernel
theorem dX9_ofSpeaker_5 : decode cX9_ofSpeaker 5 = .ok (.ifCond .eq 5, 3) := by decide +kernel
theorem dX9_ofSpeaker_8 : decode cX9_ofSpeaker 8 = .ok (.iconst (-1), 1) := by decide +kernel
theorem dX9_ofSpeaker_9 : decode cX9_ofSpeaker 9 = .ok (.ireturn, 1) := by decide +kernel
theorem dX9_ofSpeaker_10 : decode cX9_ofSpeaker 10 = .ok (.iload_n 2, 1) := by decide +kernel
theorem dX9_ofSpeaker_11 : decode cX9_ofSpeaker 11 = .ok (.ifCond .ne 12, 3) := by decide +kernel
theorem dX9_ofSpeaker_14 : decode cX9_ofSpeaker 14 = .ok (.aload_n 0, 1) := by decide +kernel
theorem dX9_ofSpeaker_15 : decode cX9_ofSpeaker 15 = .ok (.getfield 7, 3) := by decide +kernel
theorem dX9_ofSpeaker_18 : decode cX9_ofSpeaker 18 = .ok (.iload_n 1, 1) := by decide +kernel
theorem dX9_ofSpeaker_19 : decode cX9_ofSpeaker 19 = .ok (.iaload, 1) := by decide +kernel
theorem dX9_ofSpeaker_20 : decode cX9_ofSpeaker 20 = .ok (.goto 32, 3) := by decide +kernel
theorem dX9_ofSpeaker_23 : decode cX9_ofSpeaker 23 = .ok (.iload_n 2, 1) := by decide +kernel
theorem dX9_ofSpeaker_24 : decode cX9_ofSpeaker 24 = .ok (.iconst 1, 1) := by decide +kernel
theorem dX9_ofSpeaker_25 : decode cX9_ofSpeaker 25 = .ok (.if_icmp .ne 12, 3) := by decide +kernel
theorem dX9_ofSpeaker_28 : decode cX9_ofSpeaker 28 = .ok (.aload_n 0, 1) := by decide +kernel
theorem dX9_ofSpeaker_29 : decode cX9_ofSpeaker 29 = .ok (.getfield 13, 3) := by decide +kernel
theorem dX9_ofSpeaker_32 : decode cX9_ofSpeaker 32 = .ok (.iload_n 1, 1) := by decide +kernel
theorem dX9_ofSpeaker_33 : decode cX9_ofSpeaker 33 = .ok (.iaload, 1) := by decide +kernel
theorem dX9_ofSpeaker_34 : decode cX9_ofSpeaker 34 = .ok (.goto 18, 3) := by decide +kernel
theorem dX9_ofSpeaker_37 : decode cX9_ofSpeaker 37 = .ok (.iload_n 2, 1) := by decide +kernel
theorem dX9_ofSpeaker_38 : decode cX9_ofSpeaker 38 = .ok (.iconst 2, 1) := by decide +kernel
theorem dX9_ofSpeaker_39 : decode cX9_ofSpeaker 39 = .ok (.if_icmp .ne 11, 3) := by decide +kernel
theorem dX9_ofSpeaker_42 : decode cX9_ofSpeaker 42 = .ok (.aload_n 0, 1) := by decide +kernel
theorem dX9_ofSpeaker_43 : decode cX9_ofSpeaker 43 = .ok (.iload_n 1, 1) := by decide +kernel
theorem dX9_ofSpeaker_44 : decode cX9_ofSpeaker 44 = .ok (.invokevirtual 179, 3) := by decide +kernel
theorem dX9_ofSpeaker_47 : decode cX9_ofSpeaker 47 = .ok (.goto 5, 3) := by decide +kernel
theorem dX9_ofSpeaker_50 : decode cX9_ofSpeaker 50 = .ok (.bipush (-2), 2) := by decide +kernel
theorem dX9_ofSpeaker_52 : decode cX9_ofSpeaker 52 = .ok (.ireturn, 1) := by decide +kernel
theorem dX9_ofWord_0 : decode cX9_ofWord 0 = .ok (.aload_n 0, 1) := by decide +kernel
theorem dX9_ofWord_1 : decode cX9_ofWord 1 = .ok (.iload_n 1, 1) := by decide +kernel
theorem dX9_ofWord_2 : decode cX9_ofWord 2 = .ok (.iload_n 2, 1) := by decide +kernel
theorem dX9_ofWord_3 : decode cX9_ofWord 3 = .ok (.invokevirtual 182, 3) := by decide +kernel
theorem dX9_ofWord_6 : decode cX9_ofWord 6 = .ok (.ifCond .eq 5, 3) := by decide +kernel
theorem dX9_ofWord_9 : decode cX9_ofWord 9 = .ok (.iconst (-1), 1) := by decide +kernel
theorem dX9_ofWord_10 : decode cX9_ofWord 10 = .ok (.ireturn, 1) := by decide +kernel
theorem dX9_ofWord_11 : decode cX9_ofWord 11 = .ok (.iconst 3, 1) := by decide +kernel
theorem dX9_ofWord_12 : decode cX9_ofWord 12 = .ok (.iload_n 1, 1) := by decide +kernel
theorem dX9_ofWord_13 : decode cX9_ofWord 13 = .ok (.imul, 1) := by decide +kernel
theorem dX9_ofWord_14 : decode cX9_ofWord 14 = .ok (.iload_n 2, 1) := by decide +kernel
theorem dX9_ofWord_15 : decode cX9_ofWord 15 = .ok (.iadd, 1) := by decide +kernel
theorem dX9_ofWord_16 : decode cX9_ofWord 16 = .ok (.istore 4, 2) := by decide +kernel
theorem dX9_ofWord_18 : decode cX9_ofWord 18 = .ok (.iload_n 3, 1) := by decide +kernel
theorem dX9_ofWord_19 : decode cX9_ofWord 19 = .ok (.ifCond .ne 13, 3) := by decide +kernel
theorem dX9_ofWord_22 : decode cX9_ofWord 22 = .ok (.aload_n 0, 1) := by decide +kernel
theorem dX9_ofWord_23 : decode cX9_ofWord 23 = .ok (.getfield 16, 3) := by decide +kernel
theorem dX9_ofWord_26 : decode cX9_ofWord 26 = .ok (.iload 4, 2) := by decide +kernel
theorem dX9_ofWord_28 : decode cX9_ofWord 28 = .ok (.iaload, 1) := by decide +kernel
theorem dX9_ofWord_29 : decode cX9_ofWord 29 = .ok (.goto 35, 3) := by decide +kernel
theorem dX9_ofWord_32 : decode cX9_ofWord 32 = .ok (.iload_n 3, 1) := by decide +kernel
theorem dX9_ofWord_33 : decode cX9_ofWord 33 = .ok (.iconst 1, 1) := by decide +kernel
theorem dX9_ofWord_34 : decode cX9_ofWord 34 = .ok (.if_icmp .ne 13, 3) := by decide +kernel
theorem dX9_ofWord_37 : decode cX9_ofWord 37 = .ok (.aload_n 0, 1) := by decide +kernel
theorem dX9_ofWord_38 : decode cX9_ofWord 38 = .ok (.getfield 19, 3) := by decide +kernel
theorem dX9_ofWord_41 : decode cX9_ofWord 41 = .ok (.iload 4, 2) := by decide +kernel
theorem dX9_ofWord_43 : decode cX9_ofWord 43 = .ok (.iaload, 1) := by decide +kernel
theorem dX9_ofWord_44 : decode cX9_ofWord 44 = .ok (.goto 20, 3) := by decide +kernel
theorem dX9_ofWord_47 : decode cX9_ofWord 47 = .ok (.iload_n 3, 1) := by decide +kernel
theorem dX9_ofWord_48 : decode cX9_ofWord 48 = .ok (.iconst 2, 1) := by decide +kernel
theorem dX9_ofWord_49 : decode cX9_ofWord 49 = .ok (.if_icmp .ne 13, 3) := by decide +kernel
theorem dX9_ofWord_52 : decode cX9_ofWord 52 = .ok (.aload_n 0, 1) := by decide +kernel
theorem dX9_ofWord_53 : decode cX9_ofWord 53 = .ok (.getfield 22, 3) := by decide +kernel
theorem dX9_ofWord_56 : decode cX9_ofWord 56 = .ok (.iload 4, 2) := by decide +kernel
theorem dX9_ofWord_58 : decode cX9_ofWord 58 = .ok (.iaload, 1) := by decide +kernel
theorem dX9_ofWord_59 : decode cX9_ofWord 59 = .ok (.goto 5, 3) := by decide +kernel
theorem dX9_ofWord_62 : decode cX9_ofWord 62 = .ok (.bipush (-2), 2) := by decide +kernel
theorem dX9_ofWord_64 : decode cX9_ofWord 64 = .ok (.ireturn, 1) := by decide +kernel
theorem dX9_law_0 : decode cX9_law 0 = .ok (.iload_n 1, 1) := by decide +kernel
theorem dX9_law_1 : decode cX9_law 1 = .ok (.i2l, 1) := by decide +kernel
theorem dX9_law_2 : decode cX9_law 2 = .ok (.lconst 0, 1) := by decide +kernel
theorem dX9_law_3 : decode cX9_law 3 = .ok (.ldc2_w 185, 3) := by decide +kernel
theorem dX9_law_6 : decode cX9_law 6 = .ok (.invokestatic 102, 3) := by decide +kernel
theorem dX9_law_9 : decode cX9_law 9 = .ok (.ifCond .ne 6, 3) := by decide +kernel
theorem dX9_law_12 : decode cX9_law 12 = .ok (.bipush (-2), 2) := by decide +kernel
theorem dX9_law_14 : decode cX9_law 14 = .ok (.ireturn, 1) := by decide +kernel
theorem dX9_law_15 : decode cX9_law 15 = .ok (.aload_n 0, 1) := by decide +kernel
theorem dX9_law_16 : decode cX9_law 16 = .ok (.getfield 113, 3) := by decide +kernel
theorem dX9_law_19 : decode cX9_law 19 = .ok (.ifCond .ne 6, 3) := by decide +kernel
theorem dX9_law_22 : decode cX9_law 22 = .ok (.bipush (-3), 2) := by decide +kernel
theorem dX9_law_24 : decode cX9_law 24 = .ok (.ireturn, 1) := by decide +kernel
theorem dX9_law_25 : decode cX9_law 25 = .ok (.aload_n 0, 1) := by decide +kernel
theorem dX9_law_26 : decode cX9_law 26 = .ok (.getfield 173, 3) := by decide +kernel
theorem dX9_law_29 : decode cX9_law 29 = .ok (.istore_n 2, 1) := by decide +kernel
theorem dX9_law_30 : decode cX9_law 30 = .ok (.aload_n 0, 1) := by decide +kernel
theorem dX9_law_31 : decode cX9_law 31 = .ok (.iload_n 1, 1) := by decide +kernel
theorem dX9_law_32 : decode cX9_law 32 = .ok (.putfield 173, 3) := by decide +kernel
theorem dX9_law_35 : decode cX9_law 35 = .ok (.aload_n 0, 1) := by decide +kernel
theorem dX9_law_36 : decode cX9_law 36 = .ok (.iconst 0, 1) := by decide +kernel
theorem dX9_law_37 : decode cX9_law 37 = .ok (.putfield 176, 3) := by decide +kernel
theorem dX9_law_40 : decode cX9_law 40 = .ok (.iload_n 2, 1) := by decide +kernel
theorem dX9_law_41 : decode cX9_law 41 = .ok (.ireturn, 1) := by decide +kernel
theorem dX9_swap_0 : decode cX9_swap 0 = .ok (.aload_n 0, 1) := by decide +kernel
theorem dX9_swap_1 : decode cX9_swap 1 = .ok (.iload_n 1, 1) := by decide +kernel
theorem dX9_swap_2 : decode cX9_swap 2 = .ok (.invokevirtual 116, 3) := by decide +kernel
theorem dX9_swap_5 : decode cX9_swap 5 = .ok (.ifCond .ne 11, 3) := by decide +kernel
theorem dX9_swap_8 : decode cX9_swap 8 = .ok (.aload_n 0, 1) := by decide +kernel
theorem dX9_swap_9 : decode cX9_swap 9 = .ok (.iload_n 2, 1) := by decide +kernel
theorem dX9_swap_10 : decode cX9_swap 10 = .ok (.invokevirtual 116, 3) := by decide +kernel
theorem dX9_swap_13 : decode cX9_swap 13 = .ok (.ifCond .eq 5, 3) := by decide +kernel
theorem dX9_swap_16 : decode cX9_swap 16 = .ok (.iconst (-1), 1) := by decide +kernel
theorem dX9_swap_17 : decode cX9_swap 17 = .ok (.ireturn, 1) := by decide +kernel
theorem dX9_swap_18 : decode cX9_swap 18 = .ok (.aload_n 0, 1) := by decide +kernel
theorem dX9_swap_19 : decode cX9_swap 19 = .ok (.iload_n 1, 1) := by decide +kernel
theorem dX9_swap_20 : decode cX9_swap 20 = .ok (.invokevirtual 179, 3) := by decide +kernel
theorem dX9_swap_23 : decode cX9_swap 23 = .ok (.istore_n 3, 1) := by decide +kernel
theorem dX9_swap_24 : decode cX9_swap 24 = .ok (.aload_n 0, 1) := by decide +kernel
theorem dX9_swap_25 : decode cX9_swap 25 = .ok (.iload_n 2, 1) := by decide +kernel
theorem dX9_swap_26 : decode cX9_swap 26 = .ok (.invokevirtual 179, 3) := by decide +kernel
theorem dX9_swap_29 : decode cX9_swap 29 = .ok (.istore 4, 2) := by decide +kernel
theorem dX9_swap_31 : decode cX9_swap 31 = .ok (.aload_n 0, 1) := by decide +kernel
theorem dX9_swap_32 : decode cX9_swap 32 = .ok (.getfield 25, 3) := by decide +kernel
theorem dX9_swap_35 : decode cX9_swap 35 = .ok (.iload_n 3, 1) := by decide +kernel
theorem dX9_swap_36 : decode cX9_swap 36 = .ok (.iload_n 2, 1) := by decide +kernel
theorem dX9_swap_37 : decode cX9_swap 37 = .ok (.iastore, 1) := by decide +kernel
theorem dX9_swap_38 : decode cX9_swap 38 = .ok (.aload_n 0, 1) := by decide +kernel
theorem dX9_swap_39 : decode cX9_swap 39 = .ok (.getfield 25, 3) := by decide +kernel
theorem dX9_swap_42 : decode cX9_swap 42 = .ok (.iload 4, 2) := by decide +kernel
theorem dX9_swap_44 : decode cX9_swap 44 = .ok (.iload_n 1, 1) := by decide +kernel
theorem dX9_swap_45 : decode cX9_swap 45 = .ok (.iastore, 1) := by decide +kernel
theorem dX9_swap_46 : decode cX9_swap 46 = .ok (.aload_n 0, 1) := by decide +kernel
theorem dX9_swap_47 : decode cX9_swap 47 = .ok (.iconst 0, 1) := by decide +kernel
theorem dX9_swap_48 : decode cX9_swap 48 = .ok (.putfield 176, 3) := by decide +kernel
theorem dX9_swap_51 : decode cX9_swap 51 = .ok (.iconst 1, 1) := by decide +kernel
theorem dX9_swap_52 : decode cX9_swap 52 = .ok (.ireturn, 1) := by decide +kernel
theorem dX9_turnsNow_0 : decode cX9_turnsNow 0 = .ok (.aload_n 0, 1) := by decide +kernel
theorem dX9_turnsNow_1 : decode cX9_turnsNow 1 = .ok (.getfield 113, 3) := by decide +kernel
theorem dX9_turnsNow_4 : decode cX9_turnsNow 4 = .ok (.ifCond .ne 7, 3) := by decide +kernel
theorem dX9_turnsNow_7 : decode cX9_turnsNow 7 = .ok (.iconst 0, 1) := by decide +kernel
theorem dX9_turnsNow_8 : decode cX9_turnsNow 8 = .ok (.goto 21, 3) := by decide +kernel
theorem dX9_turnsNow_11 : decode cX9_turnsNow 11 = .ok (.aload_n 0, 1) := by decide +kernel
theorem dX9_turnsNow_12 : decode cX9_turnsNow 12 = .ok (.getfield 113, 3) := by decide +kernel
theorem dX9_turnsNow_15 : decode cX9_turnsNow 15 = .ok (.aload_n 0, 1) := by decide +kernel
theorem dX9_turnsNow_16 : decode cX9_turnsNow 16 = .ok (.getfield 173, 3) := by decide +kernel
theorem dX9_turnsNow_19 : decode cX9_turnsNow 19 = .ok (.iconst 3, 1) := by decide +kernel
theorem dX9_turnsNow_20 : decode cX9_turnsNow 20 = .ok (.if_icmp .ne 7, 3) := by decide +kernel
theorem dX9_turnsNow_23 : decode cX9_turnsNow 23 = .ok (.iconst 1, 1) := by decide +kernel
theorem dX9_turnsNow_24 : decode cX9_turnsNow 24 = .ok (.goto 4, 3) := by decide +kernel
theorem dX9_turnsNow_27 : decode cX9_turnsNow 27 = .ok (.iconst 0, 1) := by decide +kernel
theorem dX9_turnsNow_28 : decode cX9_turnsNow 28 = .ok (.iadd, 1) := by decide +kernel
theorem dX9_turnsNow_29 : decode cX9_turnsNow 29 = .ok (.ireturn, 1) := by decide +kernel
theorem dX9_speakerOf_0 : decode cX9_speakerOf 0 = .ok (.aload_n 0, 1) := by decide +kernel
theorem dX9_speakerOf_1 : decode cX9_speakerOf 1 = .ok (.getfield 25, 3) := by decide +kernel
theorem dX9_speakerOf_4 : decode cX9_speakerOf 4 = .ok (.iload_n 1, 1) := by decide +kernel
theorem dX9_speakerOf_5 : decode cX9_speakerOf 5 = .ok (.aload_n 0, 1) := by decide +kernel
theorem dX9_speakerOf_6 : decode cX9_speakerOf 6 = .ok (.getfield 113, 3) := by decide +kernel
theorem dX9_speakerOf_9 : decode cX9_speakerOf 9 = .ok (.irem, 1) := by decide +kernel
theorem dX9_speakerOf_10 : decode cX9_speakerOf 10 = .ok (.iaload, 1) := by decide +kernel
theorem dX9_speakerOf_11 : decode cX9_speakerOf 11 = .ok (.ireturn, 1) := by decide +kernel
theorem dX9_startWater_0 : decode cX9_startWater 0 = .ok (.aload_n 0, 1) := by decide +kernel
theorem dX9_startWater_1 : decode cX9_startWater 1 = .ok (.getfield 173, 3) := by decide +kernel
theorem dX9_startWater_4 : decode cX9_startWater 4 = .ok (.iconst 1, 1) := by decide +kernel
theorem dX9_startWater_5 : decode cX9_startWater 5 = .ok (.if_icmp .ne 15, 3) := by decide +kernel
theorem dX9_startWater_8 : decode cX9_startWater 8 = .ok (.aload_n 0, 1) := by decide +kernel
theorem dX9_startWater_9 : decode cX9_startWater 9 = .ok (.getfield 167, 3) := by decide +kernel
theorem dX9_startWater_12 : decode cX9_startWater 12 = .ok (.aload_n 0, 1) := by decide +kernel
theorem dX9_startWater_13 : decode cX9_startWater 13 = .ok (.getfield 113, 3) := by decide +kernel
theorem dX9_startWater_16 : decode cX9_startWater 16 = .ok (.idiv, 1) := by decide +kernel
theorem dX9_startWater_17 : decode cX9_startWater 17 = .ok (.goto 7, 3) := by decide +kernel
theorem dX9_startWater_20 : decode cX9_startWater 20 = .ok (.aload_n 0, 1) := by decide +kernel
theorem dX9_startWater_21 : decode cX9_startWater 21 = .ok (.getfield 167, 3) := by decide +kernel
theorem dX9_startWater_24 : decode cX9_startWater 24 = .ok (.ireturn, 1) := by decide +kernel
theorem dX9_behind_0 : decode cX9_behind 0 = .ok (.aload_n 0, 1) := by decide +kernel
theorem dX9_behind_1 : decode cX9_behind 1 = .ok (.getfield 173, 3) := by decide +kernel
theorem dX9_behind_4 : decode cX9_behind 4 = .ok (.iconst 1, 1) := by decide +kernel
theorem dX9_behind_5 : decode cX9_behind 5 = .ok (.if_icmp .ne 8, 3) := by decide +kernel
theorem dX9_behind_8 : decode cX9_behind 8 = .ok (.aload_n 0, 1) := by decide +kernel
theorem dX9_behind_9 : decode cX9_behind 9 = .ok (.invokevirtual 187, 3) := by decide +kernel
theorem dX9_behind_12 : decode cX9_behind 12 = .ok (.ireturn, 1) := by decide +kernel
theorem dX9_behind_13 : decode cX9_behind 13 = .ok (.iconst 0, 1) := by decide +kernel
theorem dX9_behind_14 : decode cX9_behind 14 = .ok (.iload_n 1, 1) := by decide +kernel
theorem dX9_behind_15 : decode cX9_behind 15 = .ok (.iload_n 2, 1) := by decide +kernel
theorem dX9_behind_16 : decode cX9_behind 16 = .ok (.isub, 1) := by decide +kernel
theorem dX9_behind_17 : decode cX9_behind 17 = .ok (.invokestatic 191, 3) := by decide +kernel
theorem dX9_behind_20 : decode cX9_behind 20 = .ok (.istore_n 3, 1) := by decide +kernel
theorem dX9_behind_21 : decode cX9_behind 21 = .ok (.aload_n 0, 1) := by decide +kernel
theorem dX9_behind_22 : decode cX9_behind 22 = .ok (.getfield 173, 3) := by decide +kernel
theorem dX9_behind_25 : decode cX9_behind 25 = .ok (.iconst 2, 1) := by decide +kernel
theorem dX9_behind_26 : decode cX9_behind 26 = .ok (.if_icmp .ne 9, 3) := by decide +kernel
theorem dX9_behind_29 : decode cX9_behind 29 = .ok (.iload_n 3, 1) := by decide +kernel
theorem dX9_behind_30 : decode cX9_behind 30 = .ok (.iconst 2, 1) := by decide +kernel
theorem dX9_behind_31 : decode cX9_behind 31 = .ok (.idiv, 1) := by decide +kernel
theorem dX9_behind_32 : decode cX9_behind 32 = .ok (.goto 4, 3) := by decide +kernel
theorem dX9_behind_35 : decode cX9_behind 35 = .ok (.iload_n 3, 1) := by decide +kernel
theorem dX9_behind_36 : decode cX9_behind 36 = .ok (.ireturn, 1) := by decide +kernel
theorem dX9_leftBy_0 : decode cX9_leftBy 0 = .ok (.iload_n 2, 1) := by decide +kernel
theorem dX9_leftBy_1 : decode cX9_leftBy 1 = .ok (.ifCond .ge 5, 3) := by decide +kernel
theorem dX9_leftBy_4 : decode cX9_leftBy 4 = .ok (.iload_n 3, 1) := by decide +kernel
theorem dX9_leftBy_5 : decode cX9_leftBy 5 = .ok (.ireturn, 1) := by decide +kernel
theorem dX9_leftBy_6 : decode cX9_leftBy 6 = .ok (.aload_n 0, 1) := by decide +kernel
theorem dX9_leftBy_7 : decode cX9_leftBy 7 = .ok (.getfield 16, 3) := by decide +kernel
theorem dX9_leftBy_10 : decode cX9_leftBy 10 = .ok (.iconst 3, 1) := by decide +kernel
theorem dX9_leftBy_11 : decode cX9_leftBy 11 = .ok (.iload_n 1, 1) := by decide +kernel
theorem dX9_leftBy_12 : decode cX9_leftBy 12 = .ok (.imul, 1) := by decide +kernel
theorem dX9_leftBy_13 : decode cX9_leftBy 13 = .ok (.iload_n 2, 1) := by decide +kernel
theorem dX9_leftBy_14 : decode cX9_leftBy 14 = .ok (.iadd, 1) := by decide +kernel
theorem dX9_leftBy_15 : decode cX9_leftBy 15 = .ok (.iaload, 1) := by decide +kernel
theorem dX9_leftBy_16 : decode cX9_leftBy 16 = .ok (.iload_n 3, 1) := by decide +kernel
theorem dX9_leftBy_17 : decode cX9_leftBy 17 = .ok (.if_icmp .gt 18, 3) := by decide +kernel
theorem dX9_leftBy_20 : decode cX9_leftBy 20 = .ok (.iload_n 3, 1) := by decide +kernel
theorem dX9_leftBy_21 : decode cX9_leftBy 21 = .ok (.aload_n 0, 1) := by decide +kernel
theorem dX9_leftBy_22 : decode cX9_leftBy 22 = .ok (.getfield 16, 3) := by decide +kernel
theorem dX9_leftBy_25 : decode cX9_leftBy 25 = .ok (.iconst 3, 1) := by decide +kernel
theorem dX9_leftBy_26 : decode cX9_leftBy 26 = .ok (.iload_n 1, 1) := by decide +kernel
theorem dX9_leftBy_27 : decode cX9_leftBy 27 = .ok (.imul, 1) := by decide +kernel
theorem dX9_leftBy_28 : decode cX9_leftBy 28 = .ok (.iload_n 2, 1) := by decide +kernel
theorem dX9_leftBy_29 : decode cX9_leftBy 29 = .ok (.iadd, 1) := by decide +kernel
theorem dX9_leftBy_30 : decode cX9_leftBy 30 = .ok (.iaload, 1) := by decide +kernel
theorem dX9_leftBy_31 : decode cX9_leftBy 31 = .ok (.isub, 1) := by decide +kernel
theorem dX9_leftBy_32 : decode cX9_leftBy 32 = .ok (.goto 4, 3) := by decide +kernel
theorem dX9_leftBy_35 : decode cX9_leftBy 35 = .ok (.iconst 0, 1) := by decide +kernel
theorem dX9_leftBy_36 : decode cX9_leftBy 36 = .ok (.ireturn, 1) := by decide +kernel
theorem dX9_isHeard_0 : decode cX9_isHeard 0 = .ok (.iload_n 2, 1) := by decide +kernel
theorem dX9_isHeard_1 : decode cX9_isHeard 1 = .ok (.ifCond .lt 21, 3) := by decide +kernel
theorem dX9_isHeard_4 : decode cX9_isHeard 4 = .ok (.aload_n 0, 1) := by decide +kernel
theorem dX9_isHeard_5 : decode cX9_isHeard 5 = .ok (.getfield 16, 3) := by decide +kernel
theorem dX9_isHeard_8 : decode cX9_isHeard 8 = .ok (.iconst 3, 1) := by decide +kernel
theorem dX9_isHeard_9 : decode cX9_isHeard 9 = .ok (.iload_n 1, 1) := by decide +kernel
theorem dX9_isHeard_10 : decode cX9_isHeard 10 = .ok (.imul, 1) := by decide +kernel
theorem dX9_isHeard_11 : decode cX9_isHeard 11 = .ok (.iload_n 2, 1) := by decide +kernel
theorem dX9_isHeard_12 : decode cX9_isHeard 12 = .ok (.iadd, 1) := by decide +kernel
theorem dX9_isHeard_13 : decode cX9_isHeard 13 = .ok (.iaload, 1) := by decide +kernel
theorem dX9_isHeard_14 : decode cX9_isHeard 14 = .ok (.iload_n 3, 1) := by decide +kernel
theorem dX9_isHeard_15 : decode cX9_isHeard 15 = .ok (.if_icmp .gt 7, 3) := by decide +kernel
theorem dX9_isHeard_18 : decode cX9_isHeard 18 = .ok (.iconst 1, 1) := by decide +kernel
theorem dX9_isHeard_19 : decode cX9_isHeard 19 = .ok (.goto 4, 3) := by decide +kernel
theorem dX9_isHeard_22 : decode cX9_isHeard 22 = .ok (.iconst 0, 1) := by decide +kernel
theorem dX9_isHeard_23 : decode cX9_isHeard 23 = .ok (.ireturn, 1) := by decide +kernel
theorem dX9_worthFor_0 : decode cX9_worthFor 0 = .ok (.iload_n 3, 1) := by decide +kernel
theorem dX9_worthFor_1 : decode cX9_worthFor 1 = .ok (.ifCond .ge 7, 3) := by decide +kernel
theorem dX9_worthFor_4 : decode cX9_worthFor 4 = .ok (.iconst 0, 1) := by decide +kernel
theorem dX9_worthFor_5 : decode cX9_worthFor 5 = .ok (.goto 31, 3) := by decide +kernel
theorem dX9_worthFor_8 : decode cX9_worthFor 8 = .ok (.iload_n 1, 1) := by decide +kernel
theorem dX9_worthFor_9 : decode cX9_worthFor 9 = .ok (.iload_n 2, 1) := by decide +kernel
theorem dX9_worthFor_10 : decode cX9_worthFor 10 = .ok (.if_icmp .ne 16, 3) := by decide +kernel
theorem dX9_worthFor_13 : decode cX9_worthFor 13 = .ok (.aload_n 0, 1) := by decide +kernel
theorem dX9_worthFor_14 : decode cX9_worthFor 14 = .ok (.getfield 19, 3) := by decide +kernel
theorem dX9_worthFor_17 : decode cX9_worthFor 17 = .ok (.iconst 3, 1) := by decide +kernel
theorem dX9_worthFor_18 : decode cX9_worthFor 18 = .ok (.iload_n 2, 1) := by decide +kernel
theorem dX9_worthFor_19 : decode cX9_worthFor 19 = .ok (.imul, 1) := by decide +kernel
theorem dX9_worthFor_20 : decode cX9_worthFor 20 = .ok (.iload_n 3, 1) := by decide +kernel
theorem dX9_worthFor_21 : decode cX9_worthFor 21 = .ok (.iadd, 1) := by decide +kernel
theorem dX9_worthFor_22 : decode cX9_worthFor 22 = .ok (.iaload, 1) := by decide +kernel
theorem dX9_worthFor_23 : decode cX9_worthFor 23 = .ok (.goto 13, 3) := by decide +kernel
theorem dX9_worthFor_26 : decode cX9_worthFor 26 = .ok (.aload_n 0, 1) := by decide +kernel
theorem dX9_worthFor_27 : decode cX9_worthFor 27 = .ok (.getfield 22, 3) := by decide +kernel
theorem dX9_worthFor_30 : decode cX9_worthFor 30 = .ok (.iconst 3, 1) := by decide +kernel
theorem dX9_worthFor_31 : decode cX9_worthFor 31 = .ok (.iload_n 2, 1) := by decide +kernel
theorem dX9_worthFor_32 : decode cX9_worthFor 32 = .ok (.imul, 1) := by decide +kernel
theorem dX9_worthFor_33 : decode cX9_worthFor 33 = .ok (.iload_n 3, 1) := by decide +kernel
theorem dX9_worthFor_34 : decode cX9_worthFor 34 = .ok (.iadd, 1) := by decide +kernel
theorem dX9_worthFor_35 : decode cX9_worthFor 35 = .ok (.iaload, 1) := by decide +kernel
theorem dX9_worthFor_36 : decode cX9_worthFor 36 = .ok (.ireturn, 1) := by decide +kernel
theorem dX9_beginDay_0 : decode cX9_beginDay 0 = .ok (.iconst 0, 1) := by decide +kernel
theorem dX9_beginDay_1 : decode cX9_beginDay 1 = .ok (.istore_n 1, 1) := by decide +kernel
theorem dX9_beginDay_2 : decode cX9_beginDay 2 = .ok (.iload_n 1, 1) := by decide +kernel
theorem dX9_beginDay_3 : decode cX9_beginDay 3 = .ok (.iconst 5, 1) := by decide +kernel
theorem dX9_beginDay_4 : decode cX9_beginDay 4 = .ok (.if_icmp .ge 16, 3) := by decide +kernel
theorem dX9_beginDay_7 : decode cX9_beginDay 7 = .ok (.aload_n 0, 1) := by decide +kernel
theorem dX9_beginDay_8 : decode cX9_beginDay 8 = .ok (.getfield 49, 3) := by decide +kernel
theorem dX9_beginDay_11 : decode cX9_beginDay 11 = .ok (.iload_n 1, 1) := by decide +kernel
theorem dX9_beginDay_12 : decode cX9_beginDay 12 = .ok (.iconst 0, 1) := by decide +kernel
theorem dX9_beginDay_13 : decode cX9_beginDay 13 = .ok (.iastore, 1) := by decide +kernel
theorem dX9_beginDay_14 : decode cX9_beginDay 14 = .ok (.iinc 1 1, 3) := by decide +kernel
theorem dX9_beginDay_17 : decode cX9_beginDay 17 = .ok (.goto (-15), 3) := by decide +kernel
theorem dX9_beginDay_20 : decode cX9_beginDay 20 = .ok (.aload_n 0, 1) := by decide +kernel
theorem dX9_beginDay_21 : decode cX9_beginDay 21 = .ok (.iconst 0, 1) := by decide +kernel
theorem dX9_beginDay_22 : decode cX9_beginDay 22 = .ok (.putfield 194, 3) := by decide +kernel
theorem dX9_beginDay_25 : decode cX9_beginDay 25 = .ok (.aload_n 0, 1) := by decide +kernel
theorem dX9_beginDay_26 : decode cX9_beginDay 26 = .ok (.bipush (-9), 2) := by decide +kernel
theorem dX9_beginDay_28 : decode cX9_beginDay 28 = .ok (.putfield 197, 3) := by decide +kernel
theorem dX9_beginDay_31 : decode cX9_beginDay 31 = .ok (.aload_n 0, 1) := by decide +kernel
theorem dX9_beginDay_32 : decode cX9_beginDay 32 = .ok (.getfield 46, 3) := by decide +kernel
theorem dX9_beginDay_35 : decode cX9_beginDay 35 = .ok (.iconst 0, 1) := by decide +kernel
theorem dX9_beginDay_36 : decode cX9_beginDay 36 = .ok (.aload_n 0, 1) := by decide +kernel
theorem dX9_beginDay_37 : decode cX9_beginDay 37 = .ok (.invokevirtual 187, 3) := by decide +kernel
theorem dX9_beginDay_40 : decode cX9_beginDay 40 = .ok (.iastore, 1) := by decide +kernel
theorem dX9_beginDay_41 : decode cX9_beginDay 41 = .ok (.return_, 1) := by decide +kernel
theorem dX9_goTurn_0 : decode cX9_goTurn 0 = .ok (.aload_n 0, 1) := by decide +kernel
theorem dX9_goTurn_1 : decode cX9_goTurn 1 = .ok (.iload_n 1, 1) := by decide +kernel
theorem dX9_goTurn_2 : decode cX9_goTurn 2 = .ok (.invokevirtual 200, 3) := by decide +kernel
theorem dX9_goTurn_5 : decode cX9_goTurn 5 = .ok (.istore 4, 2) := by decide +kernel
theorem dX9_goTurn_7 : decode cX9_goTurn 7 = .ok (.aload_n 0, 1) := by decide +kernel
theorem dX9_goTurn_8 : decode cX9_goTurn 8 = .ok (.getfield 46, 3) := by decide +kernel
theorem dX9_goTurn_11 : decode cX9_goTurn 11 = .ok (.iload_n 1, 1) := by decide +kernel
theorem dX9_goTurn_12 : decode cX9_goTurn 12 = .ok (.iaload, 1) := by decide +kernel
theorem dX9_goTurn_13 : decode cX9_goTurn 13 = .ok (.istore 5, 2) := by decide +kernel
theorem dX9_goTurn_15 : decode cX9_goTurn 15 = .ok (.aload_n 0, 1) := by decide +kernel
theorem dX9_goTurn_16 : decode cX9_goTurn 16 = .ok (.getfield 43, 3) := by decide +kernel
theorem dX9_goTurn_19 : decode cX9_goTurn 19 = .ok (.iload_n 1, 1) := by decide +kernel
theorem dX9_goTurn_20 : decode cX9_goTurn 20 = .ok (.iload_n 2, 1) := by decide +kernel
theorem dX9_goTurn_21 : decode cX9_goTurn 21 = .ok (.iastore, 1) := by decide +kernel
theorem dX9_goTurn_22 : decode cX9_goTurn 22 = .ok (.aload_n 0, 1) := by decide +kernel
theorem dX9_goTurn_23 : decode cX9_goTurn 23 = .ok (.iload 4, 2) := by decide +kernel
theorem dX9_goTurn_25 : decode cX9_goTurn 25 = .ok (.iload_n 2, 1) := by decide +kernel
theorem dX9_goTurn_26 : decode cX9_goTurn 26 = .ok (.iload 5, 2) := by decide +kernel
theorem dX9_goTurn_28 : decode cX9_goTurn 28 = .ok (.invokevirtual 203, 3) := by decide +kernel
theorem dX9_goTurn_31 : decode cX9_goTurn 31 = .ok (.ifCond .eq 53, 3) := by decide +kernel
theorem dX9_goTurn_34 : decode cX9_goTurn 34 = .ok (.aload_n 0, 1) := by decide +kernel
theorem dX9_goTurn_35 : decode cX9_goTurn 35 = .ok (.dup, 1) := by decide +kernel
theorem dX9_goTurn_36 : decode cX9_goTurn 36 = .ok (.getfield 194, 3) := by decide +kernel
theorem dX9_goTurn_39 : decode cX9_goTurn 39 = .ok (.iconst 1, 1) := by decide +kernel
theorem dX9_goTurn_40 : decode cX9_goTurn 40 = .ok (.iadd, 1) := by decide +kernel
theorem dX9_goTurn_41 : decode cX9_goTurn 41 = .ok (.putfield 194, 3) := by decide +kernel
theorem dX9_goTurn_44 : decode cX9_goTurn 44 = .ok (.iconst 0, 1) := by decide +kernel
theorem dX9_goTurn_45 : decode cX9_goTurn 45 = .ok (.istore 6, 2) := by decide +kernel
theorem dX9_goTurn_47 : decode cX9_goTurn 47 = .ok (.iload 6, 2) := by decide +kernel
theorem dX9_goTurn_49 : decode cX9_goTurn 49 = .ok (.aload_n 0, 1) := by decide +kernel
theorem dX9_goTurn_50 : decode cX9_goTurn 50 = .ok (.getfield 113, 3) := by decide +kernel
theorem dX9_goTurn_53 : decode cX9_goTurn 53 = .ok (.if_icmp .ge 28, 3) := by decide +kernel
theorem dX9_goTurn_56 : decode cX9_goTurn 56 = .ok (.aload_n 0, 1) := by decide +kernel
theorem dX9_goTurn_57 : decode cX9_goTurn 57 = .ok (.getfield 49, 3) := by decide +kernel
theorem dX9_goTurn_60 : decode cX9_goTurn 60 = .ok (.iload 6, 2) := by decide +kernel
theorem dX9_goTurn_62 : decode cX9_goTurn 62 = .ok (.dup2, 1) := by decide +kernel
theorem dX9_goTurn_63 : decode cX9_goTurn 63 = .ok (.iaload, 1) := by decide +kernel
theorem dX9_goTurn_64 : decode cX9_goTurn 64 = .ok (.aload_n 0, 1) := by decide +kernel
theorem dX9_goTurn_65 : decode cX9_goTurn 65 = .ok (.iload 6, 2) := by decide +kernel
theorem dX9_goTurn_67 : decode cX9_goTurn 67 = .ok (.iload 4, 2) := by decide +kernel
theorem dX9_goTurn_69 : decode cX9_goTurn 69 = .ok (.iload_n 2, 1) := by decide +kernel
theorem dX9_goTurn_70 : decode cX9_goTurn 70 = .ok (.invokevirtual 206, 3) := by decide +kernel
theorem dX9_goTurn_73 : decode cX9_goTurn 73 = .ok (.iadd, 1) := by decide +kernel
theorem dX9_goTurn_74 : decode cX9_goTurn 74 = .ok (.iastore, 1) := by decide +kernel
theorem dX9_goTurn_75 : decode cX9_goTurn 75 = .ok (.iinc 6 1, 3) := by decide +kernel
theorem dX9_goTurn_78 : decode cX9_goTurn 78 = .ok (.goto (-31), 3) := by decide +kernel
theorem dX9_goTurn_81 : decode cX9_goTurn 81 = .ok (.goto 19, 3) := by decide +kernel
theorem dX9_goTurn_84 : decode cX9_goTurn 84 = .ok (.iload_n 2, 1) := by decide +kernel
theorem dX9_goTurn_85 : decode cX9_goTurn 85 = .ok (.ifCond .lt 15, 3) := by decide +kernel
theorem dX9_goTurn_88 : decode cX9_goTurn 88 = .ok (.aload_n 0, 1) := by decide +kernel
theorem dX9_goTurn_89 : decode cX9_goTurn 89 = .ok (.getfield 197, 3) := by decide +kernel
theorem dX9_goTurn_92 : decode cX9_goTurn 92 = .ok (.ifCond .ge 8, 3) := by decide +kernel
theorem dX9_goTurn_95 : decode cX9_goTurn 95 = .ok (.aload_n 0, 1) := by decide +kernel
theorem dX9_goTurn_96 : decode cX9_goTurn 96 = .ok (.iload_n 1, 1) := by decide +kernel
theorem dX9_goTurn_97 : decode cX9_goTurn 97 = .ok (.putfield 197, 3) := by decide +kernel
theorem dX9_goTurn_100 : decode cX9_goTurn 100 = .ok (.aload_n 0, 1) := by decide +kernel
theorem dX9_goTurn_101 : decode cX9_goTurn 101 = .ok (.getfield 46, 3) := by decide +kernel
theorem dX9_goTurn_104 : decode cX9_goTurn 104 = .ok (.iload_n 1, 1) := by decide +kernel
theorem dX9_goTurn_105 : decode cX9_goTurn 105 = .ok (.iconst 1, 1) := by decide +kernel
theorem dX9_goTurn_106 : decode cX9_goTurn 106 = .ok (.iadd, 1) := by decide +kernel
theorem dX9_goTurn_107 : decode cX9_goTurn 107 = .ok (.aload_n 0, 1) := by decide +kernel
theorem dX9_goTurn_108 : decode cX9_goTurn 108 = .ok (.aload_n 0, 1) := by decide +kernel
theorem dX9_goTurn_109 : decode cX9_goTurn 109 = .ok (.iload 4, 2) := by decide +kernel
theorem dX9_goTurn_111 : decode cX9_goTurn 111 = .ok (.iload_n 2, 1) := by decide +kernel
theorem dX9_goTurn_112 : decode cX9_goTurn 112 = .ok (.iload 5, 2) := by decide +kernel
theorem dX9_goTurn_114 : decode cX9_goTurn 114 = .ok (.invokevirtual 209, 3) := by decide +kernel
theorem dX9_goTurn_117 : decode cX9_goTurn 117 = .ok (.iload_n 3, 1) := by decide +kernel
theorem dX9_goTurn_118 : decode cX9_goTurn 118 = .ok (.invokevirtual 212, 3) := by decide +kernel
theorem dX9_goTurn_121 : decode cX9_goTurn 121 = .ok (.iastore, 1) := by decide +kernel
theorem dX9_goTurn_122 : decode cX9_goTurn 122 = .ok (.return_, 1) := by decide +kernel
theorem dX9_areWords_0 : decode cX9_areWords 0 = .ok (.iconst 1, 1) := by decide +kernel
theorem dX9_areWords_1 : decode cX9_areWords 1 = .ok (.istore_n 3, 1) := by decide +kernel
theorem dX9_areWords_2 : decode cX9_areWords 2 = .ok (.iconst 0, 1) := by decide +kernel
theorem dX9_areWords_3 : decode cX9_areWords 3 = .ok (.istore 4, 2) := by decide +kernel
theorem dX9_areWords_5 : decode cX9_areWords 5 = .ok (.iload 4, 2) := by decide +kernel
theorem dX9_areWords_7 : decode cX9_areWords 7 = .ok (.iload_n 2, 1) := by decide +kernel
theorem dX9_areWords_8 : decode cX9_areWords 8 = .ok (.if_icmp .ge 55, 3) := by decide +kernel
theorem dX9_areWords_11 : decode cX9_areWords 11 = .ok (.iload_n 3, 1) := by decide +kernel
theorem dX9_areWords_12 : decode cX9_areWords 12 = .ok (.ifCond .eq 43, 3) := by decide +kernel
theorem dX9_areWords_15 : decode cX9_areWords 15 = .ok (.aload_n 0, 1) := by decide +kernel
theorem dX9_areWords_16 : decode cX9_areWords 16 = .ok (.getfield 76, 3) := by decide +kernel
theorem dX9_areWords_19 : decode cX9_areWords 19 = .ok (.iload_n 1, 1) := by decide +kernel
theorem dX9_areWords_20 : decode cX9_areWords 20 = .ok (.iload 4, 2) := by decide +kernel
theorem dX9_areWords_22 : decode cX9_areWords 22 = .ok (.iadd, 1) := by decide +kernel
theorem dX9_areWords_23 : decode cX9_areWords 23 = .ok (.iaload, 1) := by decide +kernel
theorem dX9_areWords_24 : decode cX9_areWords 24 = .ok (.bipush (-9), 2) := by decide +kernel
theorem dX9_areWords_26 : decode cX9_areWords 26 = .ok (.if_icmp .eq 25, 3) := by decide +kernel
theorem dX9_areWords_29 : decode cX9_areWords 29 = .ok (.aload_n 0, 1) := by decide +kernel
theorem dX9_areWords_30 : decode cX9_areWords 30 = .ok (.aload_n 0, 1) := by decide +kernel
theorem dX9_areWords_31 : decode cX9_areWords 31 = .ok (.iload 4, 2) := by decide +kernel
theorem dX9_areWords_33 : decode cX9_areWords 33 = .ok (.invokevirtual 200, 3) := by decide +kernel
theorem dX9_areWords_36 : decode cX9_areWords 36 = .ok (.aload_n 0, 1) := by decide +kernel
theorem dX9_areWords_37 : decode cX9_areWords 37 = .ok (.getfield 76, 3) := by decide +kernel
theorem dX9_areWords_40 : decode cX9_areWords 40 = .ok (.iload_n 1, 1) := by decide +kernel
theorem dX9_areWords_41 : decode cX9_areWords 41 = .ok (.iload 4, 2) := by decide +kernel
theorem dX9_areWords_43 : decode cX9_areWords 43 = .ok (.iadd, 1) := by decide +kernel
theorem dX9_areWords_44 : decode cX9_areWords 44 = .ok (.iaload, 1) := by decide +kernel
theorem dX9_areWords_45 : decode cX9_areWords 45 = .ok (.invokevirtual 182, 3) := by decide +kernel
theorem dX9_areWords_48 : decode cX9_areWords 48 = .ok (.ifCond .ne 7, 3) := by decide +kernel
theorem dX9_areWords_51 : decode cX9_areWords 51 = .ok (.iconst 1, 1) := by decide +kernel
theorem dX9_areWords_52 : decode cX9_areWords 52 = .ok (.goto 4, 3) := by decide +kernel
theorem dX9_areWords_55 : decode cX9_areWords 55 = .ok (.iconst 0, 1) := by decide +kernel
theorem dX9_areWords_56 : decode cX9_areWords 56 = .ok (.istore_n 3, 1) := by decide +kernel
theorem dX9_areWords_57 : decode cX9_areWords 57 = .ok (.iinc 4 1, 3) := by decide +kernel
theorem dX9_areWords_60 : decode cX9_areWords 60 = .ok (.goto (-55), 3) := by decide +kernel
theorem dX9_areWords_63 : decode cX9_areWords 63 = .ok (.iload_n 3, 1) := by decide +kernel
theorem dX9_areWords_64 : decode cX9_areWords 64 = .ok (.ireturn, 1) := by decide +kernel
theorem dX9_goTold_0 : decode cX9_goTold 0 = .ok (.aload_n 0, 1) := by decide +kernel
theorem dX9_goTold_1 : decode cX9_goTold 1 = .ok (.iload_n 1, 1) := by decide +kernel
theorem dX9_goTold_2 : decode cX9_goTold 2 = .ok (.iload_n 2, 1) := by decide +kernel
theorem dX9_goTold_3 : decode cX9_goTold 3 = .ok (.iload_n 3, 1) := by decide +kernel
theorem dX9_goTold_4 : decode cX9_goTold 4 = .ok (.iload 4, 2) := by decide +kernel
theorem dX9_goTold_6 : decode cX9_goTold 6 = .ok (.i2l, 1) := by decide +kernel
theorem dX9_goTold_7 : decode cX9_goTold 7 = .ok (.invokevirtual 160, 3) := by decide +kernel
theorem dX9_goTold_10 : decode cX9_goTold 10 = .ok (.istore 5, 2) := by decide +kernel
theorem dX9_goTold_12 : decode cX9_goTold 12 = .ok (.iload 5, 2) := by decide +kernel
theorem dX9_goTold_14 : decode cX9_goTold 14 = .ok (.ifCond .ge 6, 3) := by decide +kernel
theorem dX9_goTold_17 : decode cX9_goTold 17 = .ok (.iload 5, 2) := by decide +kernel
theorem dX9_goTold_19 : decode cX9_goTold 19 = .ok (.ireturn, 1) := by decide +kernel
theorem dX9_goTold_20 : decode cX9_goTold 20 = .ok (.aload_n 0, 1) := by decide +kernel
theorem dX9_goTold_21 : decode cX9_goTold 21 = .ok (.getfield 113, 3) := by decide +kernel
theorem dX9_goTold_24 : decode cX9_goTold 24 = .ok (.ifCond .ne 10, 3) := by decide +kernel
theorem dX9_goTold_27 : decode cX9_goTold 27 = .ok (.aload_n 0, 1) := by decide +kernel
theorem dX9_goTold_28 : decode cX9_goTold 28 = .ok (.bipush (-3), 2) := by decide +kernel
theorem dX9_goTold_30 : decode cX9_goTold 30 = .ok (.invokevirtual 96, 3) := by decide +kernel
theorem dX9_goTold_33 : decode cX9_goTold 33 = .ok (.ireturn, 1) := by decide +kernel
theorem dX9_goTold_34 : decode cX9_goTold 34 = .ok (.iload 4, 2) := by decide +kernel
theorem dX9_goTold_36 : decode cX9_goTold 36 = .ok (.aload_n 0, 1) := by decide +kernel
theorem dX9_goTold_37 : decode cX9_goTold 37 = .ok (.invokevirtual 215, 3) := by decide +kernel
theorem dX9_goTold_40 : decode cX9_goTold 40 = .ok (.if_icmp .le 10, 3) := by decide +kernel
theorem dX9_goTold_43 : decode cX9_goTold 43 = .ok (.aload_n 0, 1) := by decide +kernel
theorem dX9_goTold_44 : decode cX9_goTold 44 = .ok (.bipush (-2), 2) := by decide +kernel
theorem dX9_goTold_46 : decode cX9_goTold 46 = .ok (.invokevirtual 96, 3) := by decide +kernel
theorem dX9_goTold_49 : decode cX9_goTold 49 = .ok (.ireturn, 1) := by decide +kernel
theorem dX9_goTold_50 : decode cX9_goTold 50 = .ok (.bipush 100, 2) := by decide +kernel
theorem dX9_goTold_52 : decode cX9_goTold 52 = .ok (.iload_n 1, 1) := by decide +kernel
theorem dX9_goTold_53 : decode cX9_goTold 53 = .ok (.imul, 1) := by decide +kernel
theorem dX9_goTold_54 : decode cX9_goTold 54 = .ok (.iload_n 3, 1) := by decide +kernel
theorem dX9_goTold_55 : decode cX9_goTold 55 = .ok (.iadd, 1) := by decide +kernel
theorem dX9_goTold_56 : decode cX9_goTold 56 = .ok (.istore 6, 2) := by decide +kernel
theorem dX9_goTold_58 : decode cX9_goTold 58 = .ok (.aload_n 0, 1) := by decide +kernel
theorem dX9_goTold_59 : decode cX9_goTold 59 = .ok (.iload 6, 2) := by decide +kernel
theorem dX9_goTold_61 : decode cX9_goTold 61 = .ok (.iload 4, 2) := by decide +kernel
theorem dX9_goTold_63 : decode cX9_goTold 63 = .ok (.invokevirtual 218, 3) := by decide +kernel
theorem dX9_goTold_66 : decode cX9_goTold 66 = .ok (.ifCond .ne 9, 3) := by decide +kernel
theorem dX9_goTold_69 : decode cX9_goTold 69 = .ok (.aload_n 0, 1) := by decide +kernel
theorem dX9_goTold_70 : decode cX9_goTold 70 = .ok (.iconst (-1), 1) := by decide +kernel
theorem dX9_goTold_71 : decode cX9_goTold 71 = .ok (.invokevirtual 96, 3) := by decide +kernel
theorem dX9_goTold_74 : decode cX9_goTold 74 = .ok (.ireturn, 1) := by decide +kernel
theorem dX9_goTold_75 : decode cX9_goTold 75 = .ok (.aload_n 0, 1) := by decide +kernel
theorem dX9_goTold_76 : decode cX9_goTold 76 = .ok (.invokevirtual 221, 3) := by decide +kernel
theorem dX9_goTold_79 : decode cX9_goTold 79 = .ok (.iconst 0, 1) := by decide +kernel
theorem dX9_goTold_80 : decode cX9_goTold 80 = .ok (.istore 7, 2) := by decide +kernel
theorem dX9_goTold_82 : decode cX9_goTold 82 = .ok (.iload 7, 2) := by decide +kernel
theorem dX9_goTold_84 : decode cX9_goTold 84 = .ok (.iload 4, 2) := by decide +kernel
theorem dX9_goTold_86 : decode cX9_goTold 86 = .ok (.if_icmp .ge 29, 3) := by decide +kernel
theorem dX9_goTold_89 : decode cX9_goTold 89 = .ok (.aload_n 0, 1) := by decide +kernel
theorem dX9_goTold_90 : decode cX9_goTold 90 = .ok (.iload 7, 2) := by decide +kernel
theorem dX9_goTold_92 : decode cX9_goTold 92 = .ok (.aload_n 0, 1) := by decide +kernel
theorem dX9_goTold_93 : decode cX9_goTold 93 = .ok (.getfield 76, 3) := by decide +kernel
theorem dX9_goTold_96 : decode cX9_goTold 96 = .ok (.iload 6, 2) := by decide +kernel
theorem dX9_goTold_98 : decode cX9_goTold 98 = .ok (.iload 7, 2) := by decide +kernel
theorem dX9_goTold_100 : decode cX9_goTold 100 = .ok (.iadd, 1) := by decide +kernel
theorem dX9_goTold_101 : decode cX9_goTold 101 = .ok (.iaload, 1) := by decide +kernel
theorem dX9_goTold_102 : decode cX9_goTold 102 = .ok (.aload_n 0, 1) := by decide +kernel
theorem dX9_goTold_103 : decode cX9_goTold 103 = .ok (.getfield 170, 3) := by decide +kernel
theorem dX9_goTold_106 : decode cX9_goTold 106 = .ok (.invokevirtual 224, 3) := by decide +kernel
theorem dX9_goTold_109 : decode cX9_goTold 109 = .ok (.iinc 7 1, 3) := by decide +kernel
theorem dX9_goTold_112 : decode cX9_goTold 112 = .ok (.goto (-30), 3) := by decide +kernel
theorem dX9_goTold_115 : decode cX9_goTold 115 = .ok (.aload_n 0, 1) := by decide +kernel
theorem dX9_goTold_116 : decode cX9_goTold 116 = .ok (.iconst 0, 1) := by decide +kernel
theorem dX9_goTold_117 : decode cX9_goTold 117 = .ok (.invokevirtual 96, 3) := by decide +kernel
theorem dX9_goTold_120 : decode cX9_goTold 120 = .ok (.ireturn, 1) := by decide +kernel
theorem dX9_judge_0 : decode cX9_judge 0 = .ok (.aload_n 0, 1) := by decide +kernel
theorem dX9_judge_1 : decode cX9_judge 1 = .ok (.iload_n 1, 1) := by decide +kernel
theorem dX9_judge_2 : decode cX9_judge 2 = .ok (.iload_n 2, 1) := by decide +kernel
theorem dX9_judge_3 : decode cX9_judge 3 = .ok (.iload_n 3, 1) := by decide +kernel
theorem dX9_judge_4 : decode cX9_judge 4 = .ok (.iload 4, 2) := by decide +kernel
theorem dX9_judge_6 : decode cX9_judge 6 = .ok (.invokevirtual 228, 3) := by decide +kernel
theorem dX9_judge_9 : decode cX9_judge 9 = .ok (.istore 6, 2) := by decide +kernel
theorem dX9_judge_11 : decode cX9_judge 11 = .ok (.iload 6, 2) := by decide +kernel
theorem dX9_judge_13 : decode cX9_judge 13 = .ok (.ifCond .ge 6, 3) := by decide +kernel
theorem dX9_judge_16 : decode cX9_judge 16 = .ok (.iload 6, 2) := by decide +kernel
theorem dX9_judge_18 : decode cX9_judge 18 = .ok (.ireturn, 1) := by decide +kernel
theorem dX9_judge_19 : decode cX9_judge 19 = .ok (.iload 5, 2) := by decide +kernel
theorem dX9_judge_21 : decode cX9_judge 21 = .ok (.ifCond .ne 10, 3) := by decide +kernel
theorem dX9_judge_24 : decode cX9_judge 24 = .ok (.aload_n 0, 1) := by decide +kernel
theorem dX9_judge_25 : decode cX9_judge 25 = .ok (.getfield 194, 3) := by decide +kernel
theorem dX9_judge_28 : decode cX9_judge 28 = .ok (.goto 34, 3) := by decide +kernel
theorem dX9_judge_31 : decode cX9_judge 31 = .ok (.iload 5, 2) := by decide +kernel
theorem dX9_judge_33 : decode cX9_judge 33 = .ok (.iconst 1, 1) := by decide +kernel
theorem dX9_judge_34 : decode cX9_judge 34 = .ok (.if_icmp .ne 10, 3) := by decide +kernel
theorem dX9_judge_37 : decode cX9_judge 37 = .ok (.aload_n 0, 1) := by decide +kernel
theorem dX9_judge_38 : decode cX9_judge 38 = .ok (.getfield 197, 3) := by decide +kernel
theorem dX9_judge_41 : decode cX9_judge 41 = .ok (.goto 21, 3) := by decide +kernel
theorem dX9_judge_44 : decode cX9_judge 44 = .ok (.iload 5, 2) := by decide +kernel
theorem dX9_judge_46 : decode cX9_judge 46 = .ok (.iconst 2, 1) := by decide +kernel
theorem dX9_judge_47 : decode cX9_judge 47 = .ok (.if_icmp .ne 13, 3) := by decide +kernel
theorem dX9_judge_50 : decode cX9_judge 50 = .ok (.aload_n 0, 1) := by decide +kernel
theorem dX9_judge_51 : decode cX9_judge 51 = .ok (.getfield 46, 3) := by decide +kernel
theorem dX9_judge_54 : decode cX9_judge 54 = .ok (.iload 4, 2) := by decide +kernel
theorem dX9_judge_56 : decode cX9_judge 56 = .ok (.iaload, 1) := by decide +kernel
theorem dX9_judge_57 : decode cX9_judge 57 = .ok (.goto 5, 3) := by decide +kernel
theorem dX9_judge_60 : decode cX9_judge 60 = .ok (.bipush (-2), 2) := by decide +kernel
theorem dX9_judge_62 : decode cX9_judge 62 = .ok (.ireturn, 1) := by decide +kernel
theorem dX9_worthOf_0 : decode cX9_worthOf 0 = .ok (.aload_n 0, 1) := by decide +kernel
theorem dX9_worthOf_1 : decode cX9_worthOf 1 = .ok (.iload_n 1, 1) := by decide +kernel
theorem dX9_worthOf_2 : decode cX9_worthOf 2 = .ok (.iload_n 2, 1) := by decide +kernel
theorem dX9_worthOf_3 : decode cX9_worthOf 3 = .ok (.iload_n 3, 1) := by decide +kernel
theorem dX9_worthOf_4 : decode cX9_worthOf 4 = .ok (.iload 4, 2) := by decide +kernel
theorem dX9_worthOf_6 : decode cX9_worthOf 6 = .ok (.invokevirtual 228, 3) := by decide +kernel
theorem dX9_worthOf_9 : decode cX9_worthOf 9 = .ok (.istore 6, 2) := by decide +kernel
theorem dX9_worthOf_11 : decode cX9_worthOf 11 = .ok (.iload 6, 2) := by decide +kernel
theorem dX9_worthOf_13 : decode cX9_worthOf 13 = .ok (.ifCond .ge 6, 3) := by decide +kernel
theorem dX9_worthOf_16 : decode cX9_worthOf 16 = .ok (.iload 6, 2) := by decide +kernel
theorem dX9_worthOf_18 : decode cX9_worthOf 18 = .ok (.ireturn, 1) := by decide +kernel
theorem dX9_worthOf_19 : decode cX9_worthOf 19 = .ok (.aload_n 0, 1) := by decide +kernel
theorem dX9_worthOf_20 : decode cX9_worthOf 20 = .ok (.iload 5, 2) := by decide +kernel
theorem dX9_worthOf_22 : decode cX9_worthOf 22 = .ok (.invokevirtual 116, 3) := by decide +kernel
theorem dX9_worthOf_25 : decode cX9_worthOf 25 = .ok (.ifCond .eq 7, 3) := by decide +kernel
theorem dX9_worthOf_28 : decode cX9_worthOf 28 = .ok (.iconst (-1), 1) := by decide +kernel
theorem dX9_worthOf_29 : decode cX9_worthOf 29 = .ok (.goto 10, 3) := by decide +kernel
theorem dX9_worthOf_32 : decode cX9_worthOf 32 = .ok (.aload_n 0, 1) := by decide +kernel
theorem dX9_worthOf_33 : decode cX9_worthOf 33 = .ok (.getfield 49, 3) := by decide +kernel
theorem dX9_worthOf_36 : decode cX9_worthOf 36 = .ok (.iload 5, 2) := by decide +kernel
theorem dX9_worthOf_38 : decode cX9_worthOf 38 = .ok (.iaload, 1) := by decide +kernel
theorem dX9_worthOf_39 : decode cX9_worthOf 39 = .ok (.ireturn, 1) := by decide +kernel
theorem dX9_valueOf_0 : decode cX9_valueOf 0 = .ok (.aload_n 0, 1) := by decide +kernel
theorem dX9_valueOf_1 : decode cX9_valueOf 1 = .ok (.getfield 55, 3) := by decide +kernel
theorem dX9_valueOf_4 : decode cX9_valueOf 4 = .ok (.bipush 100, 2) := by decide +kernel
theorem dX9_valueOf_6 : decode cX9_valueOf 6 = .ok (.iload_n 1, 1) := by decide +kernel
theorem dX9_valueOf_7 : decode cX9_valueOf 7 = .ok (.imul, 1) := by decide +kernel
theorem dX9_valueOf_8 : decode cX9_valueOf 8 = .ok (.iload_n 2, 1) := by decide +kernel
theorem dX9_valueOf_9 : decode cX9_valueOf 9 = .ok (.iadd, 1) := by decide +kernel
theorem dX9_valueOf_10 : decode cX9_valueOf 10 = .ok (.iconst 5, 1) := by decide +kernel
theorem dX9_valueOf_11 : decode cX9_valueOf 11 = .ok (.imul, 1) := by decide +kernel
theorem dX9_valueOf_12 : decode cX9_valueOf 12 = .ok (.iload_n 3, 1) := by decide +kernel
theorem dX9_valueOf_13 : decode cX9_valueOf 13 = .ok (.iadd, 1) := by decide +kernel
theorem dX9_valueOf_14 : decode cX9_valueOf 14 = .ok (.iaload, 1) := by decide +kernel
theorem dX9_valueOf_15 : decode cX9_valueOf 15 = .ok (.ireturn, 1) := by decide +kernel
theorem dX9_valueBy_0 : decode cX9_valueBy 0 = .ok (.aload_n 0, 1) := by decide +kernel
theorem dX9_valueBy_1 : decode cX9_valueBy 1 = .ok (.iload_n 1, 1) := by decide +kernel
theorem dX9_valueBy_2 : decode cX9_valueBy 2 = .ok (.invokevirtual 200, 3) := by decide +kernel
theorem dX9_valueBy_5 : decode cX9_valueBy 5 = .ok (.istore 5, 2) := by decide +kernel
theorem dX9_valueBy_7 : decode cX9_valueBy 7 = .ok (.aload_n 0, 1) := by decide +kernel
theorem dX9_valueBy_8 : decode cX9_valueBy 8 = .ok (.iload 5, 2) := by decide +kernel
theorem dX9_valueBy_10 : decode cX9_valueBy 10 = .ok (.iload_n 3, 1) := by decide +kernel
theorem dX9_valueBy_11 : decode cX9_valueBy 11 = .ok (.iload_n 2, 1) := by decide +kernel
theorem dX9_valueBy_12 : decode cX9_valueBy 12 = .ok (.invokevirtual 203, 3) := by decide +kernel
theorem dX9_valueBy_15 : decode cX9_valueBy 15 = .ok (.ifCond .eq 15, 3) := by decide +kernel
theorem dX9_valueBy_18 : decode cX9_valueBy 18 = .ok (.aload_n 0, 1) := by decide +kernel
theorem dX9_valueBy_19 : decode cX9_valueBy 19 = .ok (.iload 4, 2) := by decide +kernel
theorem dX9_valueBy_21 : decode cX9_valueBy 21 = .ok (.iload 5, 2) := by decide +kernel
theorem dX9_valueBy_23 : decode cX9_valueBy 23 = .ok (.iload_n 3, 1) := by decide +kernel
theorem dX9_valueBy_24 : decode cX9_valueBy 24 = .ok (.invokevirtual 206, 3) := by decide +kernel
theorem dX9_valueBy_27 : decode cX9_valueBy 27 = .ok (.goto 4, 3) := by decide +kernel
theorem dX9_valueBy_30 : decode cX9_valueBy 30 = .ok (.iconst 0, 1) := by decide +kernel
theorem dX9_valueBy_31 : decode cX9_valueBy 31 = .ok (.aload_n 0, 1) := by decide +kernel
theorem dX9_valueBy_32 : decode cX9_valueBy 32 = .ok (.iload_n 1, 1) := by decide +kernel
theorem dX9_valueBy_33 : decode cX9_valueBy 33 = .ok (.iconst 1, 1) := by decide +kernel
theorem dX9_valueBy_34 : decode cX9_valueBy 34 = .ok (.iadd, 1) := by decide +kernel
theorem dX9_valueBy_35 : decode cX9_valueBy 35 = .ok (.aload_n 0, 1) := by decide +kernel
theorem dX9_valueBy_36 : decode cX9_valueBy 36 = .ok (.aload_n 0, 1) := by decide +kernel
theorem dX9_valueBy_37 : decode cX9_valueBy 37 = .ok (.iload 5, 2) := by decide +kernel
theorem dX9_valueBy_39 : decode cX9_valueBy 39 = .ok (.iload_n 3, 1) := by decide +kernel
theorem dX9_valueBy_40 : decode cX9_valueBy 40 = .ok (.iload_n 2, 1) := by decide +kernel
theorem dX9_valueBy_41 : decode cX9_valueBy 41 = .ok (.invokevirtual 209, 3) := by decide +kernel
theorem dX9_valueBy_44 : decode cX9_valueBy 44 = .ok (.aload_n 0, 1) := by decide +kernel
theorem dX9_valueBy_45 : decode cX9_valueBy 45 = .ok (.getfield 170, 3) := by decide +kernel
theorem dX9_valueBy_48 : decode cX9_valueBy 48 = .ok (.invokevirtual 212, 3) := by decide +kernel
theorem dX9_valueBy_51 : decode cX9_valueBy 51 = .ok (.iload 4, 2) := by decide +kernel
theorem dX9_valueBy_53 : decode cX9_valueBy 53 = .ok (.invokevirtual 232, 3) := by decide +kernel
theorem dX9_valueBy_56 : decode cX9_valueBy 56 = .ok (.iadd, 1) := by decide +kernel
theorem dX9_valueBy_57 : decode cX9_valueBy 57 = .ok (.ireturn, 1) := by decide +kernel
theorem dX9_lengthAs_0 : decode cX9_lengthAs 0 = .ok (.iload_n 2, 1) := by decide +kernel
theorem dX9_lengthAs_1 : decode cX9_lengthAs 1 = .ok (.ifCond .ge 7, 3) := by decide +kernel
theorem dX9_lengthAs_4 : decode cX9_lengthAs 4 = .ok (.iconst 0, 1) := by decide +kernel
theorem dX9_lengthAs_5 : decode cX9_lengthAs 5 = .ok (.goto 13, 3) := by decide +kernel
theorem dX9_lengthAs_8 : decode cX9_lengthAs 8 = .ok (.aload_n 0, 1) := by decide +kernel
theorem dX9_lengthAs_9 : decode cX9_lengthAs 9 = .ok (.getfield 16, 3) := by decide +kernel
theorem dX9_lengthAs_12 : decode cX9_lengthAs 12 = .ok (.iconst 3, 1) := by decide +kernel
theorem dX9_lengthAs_13 : decode cX9_lengthAs 13 = .ok (.iload_n 1, 1) := by decide +kernel
theorem dX9_lengthAs_14 : decode cX9_lengthAs 14 = .ok (.imul, 1) := by decide +kernel
theorem dX9_lengthAs_15 : decode cX9_lengthAs 15 = .ok (.iload_n 2, 1) := by decide +kernel
theorem dX9_lengthAs_16 : decode cX9_lengthAs 16 = .ok (.iadd, 1) := by decide +kernel
theorem dX9_lengthAs_17 : decode cX9_lengthAs 17 = .ok (.iaload, 1) := by decide +kernel
theorem dX9_lengthAs_18 : decode cX9_lengthAs 18 = .ok (.ireturn, 1) := by decide +kernel
theorem dX9_bestIn_0 : decode cX9_bestIn 0 = .ok (.aload_n 0, 1) := by decide +kernel
theorem dX9_bestIn_1 : decode cX9_bestIn 1 = .ok (.iload_n 1, 1) := by decide +kernel
theorem dX9_bestIn_2 : decode cX9_bestIn 2 = .ok (.invokevirtual 200, 3) := by decide +kernel
theorem dX9_bestIn_5 : decode cX9_bestIn 5 = .ok (.istore_n 3, 1) := by decide +kernel
theorem dX9_bestIn_6 : decode cX9_bestIn 6 = .ok (.bipush (-9), 2) := by decide +kernel
theorem dX9_bestIn_8 : decode cX9_bestIn 8 = .ok (.istore 4, 2) := by decide +kernel
theorem dX9_bestIn_10 : decode cX9_bestIn 10 = .ok (.aload_n 0, 1) := by decide +kernel
theorem dX9_bestIn_11 : decode cX9_bestIn 11 = .ok (.iload_n 1, 1) := by decide +kernel
theorem dX9_bestIn_12 : decode cX9_bestIn 12 = .ok (.iload_n 2, 1) := by decide +kernel
theorem dX9_bestIn_13 : decode cX9_bestIn 13 = .ok (.bipush (-9), 2) := by decide +kernel
theorem dX9_bestIn_15 : decode cX9_bestIn 15 = .ok (.iload_n 3, 1) := by decide +kernel
theorem dX9_bestIn_16 : decode cX9_bestIn 16 = .ok (.invokevirtual 235, 3) := by decide +kernel
theorem dX9_bestIn_19 : decode cX9_bestIn 19 = .ok (.istore 5, 2) := by decide +kernel
theorem dX9_bestIn_21 : decode cX9_bestIn 21 = .ok (.iconst 0, 1) := by decide +kernel
theorem dX9_bestIn_22 : decode cX9_bestIn 22 = .ok (.istore 6, 2) := by decide +kernel
theorem dX9_bestIn_24 : decode cX9_bestIn 24 = .ok (.iload 6, 2) := by decide +kernel
theorem dX9_bestIn_26 : decode cX9_bestIn 26 = .ok (.aload_n 0, 1) := by decide +kernel
theorem dX9_bestIn_27 : decode cX9_bestIn 27 = .ok (.getfield 13, 3) := by decide +kernel
theorem dX9_bestIn_30 : decode cX9_bestIn 30 = .ok (.iload_n 3, 1) := by decide +kernel
theorem dX9_bestIn_31 : decode cX9_bestIn 31 = .ok (.iaload, 1) := by decide +kernel
theorem dX9_bestIn_32 : decode cX9_bestIn 32 = .ok (.if_icmp .ge 119, 3) := by decide +kernel
theorem dX9_bestIn_35 : decode cX9_bestIn 35 = .ok (.aload_n 0, 1) := by decide +kernel
theorem dX9_bestIn_36 : decode cX9_bestIn 36 = .ok (.getfield 7, 3) := by decide +kernel
theorem dX9_bestIn_39 : decode cX9_bestIn 39 = .ok (.iload_n 3, 1) := by decide +kernel
theorem dX9_bestIn_40 : decode cX9_bestIn 40 = .ok (.iaload, 1) := by decide +kernel
theorem dX9_bestIn_41 : decode cX9_bestIn 41 = .ok (.iconst 2, 1) := by decide +kernel
theorem dX9_bestIn_42 : decode cX9_bestIn 42 = .ok (.if_icmp .ge 109, 3) := by decide +kernel
theorem dX9_bestIn_45 : decode cX9_bestIn 45 = .ok (.aload_n 0, 1) := by decide +kernel
theorem dX9_bestIn_46 : decode cX9_bestIn 46 = .ok (.iload_n 3, 1) := by decide +kernel
theorem dX9_bestIn_47 : decode cX9_bestIn 47 = .ok (.iload 6, 2) := by decide +kernel
theorem dX9_bestIn_49 : decode cX9_bestIn 49 = .ok (.iload_n 2, 1) := by decide +kernel
theorem dX9_bestIn_50 : decode cX9_bestIn 50 = .ok (.invokevirtual 203, 3) := by decide +kernel
theorem dX9_bestIn_53 : decode cX9_bestIn 53 = .ok (.ifCond .eq 92, 3) := by decide +kernel
theorem dX9_bestIn_56 : decode cX9_bestIn 56 = .ok (.aload_n 0, 1) := by decide +kernel
theorem dX9_bestIn_57 : decode cX9_bestIn 57 = .ok (.iload_n 1, 1) := by decide +kernel
theorem dX9_bestIn_58 : decode cX9_bestIn 58 = .ok (.iload_n 2, 1) := by decide +kernel
theorem dX9_bestIn_59 : decode cX9_bestIn 59 = .ok (.iload 6, 2) := by decide +kernel
theorem dX9_bestIn_61 : decode cX9_bestIn 61 = .ok (.iload_n 3, 1) := by decide +kernel
theorem dX9_bestIn_62 : decode cX9_bestIn 62 = .ok (.invokevirtual 235, 3) := by decide +kernel
theorem dX9_bestIn_65 : decode cX9_bestIn 65 = .ok (.istore 7, 2) := by decide +kernel
theorem dX9_bestIn_67 : decode cX9_bestIn 67 = .ok (.aload_n 0, 1) := by decide +kernel
theorem dX9_bestIn_68 : decode cX9_bestIn 68 = .ok (.iload_n 3, 1) := by decide +kernel
theorem dX9_bestIn_69 : decode cX9_bestIn 69 = .ok (.iload 6, 2) := by decide +kernel
theorem dX9_bestIn_71 : decode cX9_bestIn 71 = .ok (.invokevirtual 238, 3) := by decide +kernel
theorem dX9_bestIn_74 : decode cX9_bestIn 74 = .ok (.aload_n 0, 1) := by decide +kernel
theorem dX9_bestIn_75 : decode cX9_bestIn 75 = .ok (.iload_n 3, 1) := by decide +kernel
theorem dX9_bestIn_76 : decode cX9_bestIn 76 = .ok (.iload 4, 2) := by decide +kernel
theorem dX9_bestIn_78 : decode cX9_bestIn 78 = .ok (.invokevirtual 238, 3) := by decide +kernel
theorem dX9_bestIn_81 : decode cX9_bestIn 81 = .ok (.isub, 1) := by decide +kernel
theorem dX9_bestIn_82 : decode cX9_bestIn 82 = .ok (.istore 8, 2) := by decide +kernel
theorem dX9_bestIn_84 : decode cX9_bestIn 84 = .ok (.aload_n 0, 1) := by decide +kernel
theorem dX9_bestIn_85 : decode cX9_bestIn 85 = .ok (.getfield 7, 3) := by decide +kernel
theorem dX9_bestIn_88 : decode cX9_bestIn 88 = .ok (.iload_n 3, 1) := by decide +kernel
theorem dX9_bestIn_89 : decode cX9_bestIn 89 = .ok (.iaload, 1) := by decide +kernel
theorem dX9_bestIn_90 : decode cX9_bestIn 90 = .ok (.ifCond .ne 16, 3) := by decide +kernel
theorem dX9_bestIn_93 : decode cX9_bestIn 93 = .ok (.iload 8, 2) := by decide +kernel
theorem dX9_bestIn_95 : decode cX9_bestIn 95 = .ok (.ifCond .le 7, 3) := by decide +kernel
theorem dX9_bestIn_98 : decode cX9_bestIn 98 = .ok (.iconst 1, 1) := by decide +kernel
theorem dX9_bestIn_99 : decode cX9_bestIn 99 = .ok (.goto 17, 3) := by decide +kernel
theorem dX9_bestIn_102 : decode cX9_bestIn 102 = .ok (.iconst 0, 1) := by decide +kernel
theorem dX9_bestIn_103 : decode cX9_bestIn 103 = .ok (.goto 13, 3) := by decide +kernel
theorem dX9_bestIn_106 : decode cX9_bestIn 106 = .ok (.iload 8, 2) := by decide +kernel
theorem dX9_bestIn_108 : decode cX9_bestIn 108 = .ok (.ifCond .ge 7, 3) := by decide +kernel
theorem dX9_bestIn_111 : decode cX9_bestIn 111 = .ok (.iconst 1, 1) := by decide +kernel
theorem dX9_bestIn_112 : decode cX9_bestIn 112 = .ok (.goto 4, 3) := by decide +kernel
theorem dX9_bestIn_115 : decode cX9_bestIn 115 = .ok (.iconst 0, 1) := by decide +kernel
theorem dX9_bestIn_116 : decode cX9_bestIn 116 = .ok (.istore 9, 2) := by decide +kernel
theorem dX9_bestIn_118 : decode cX9_bestIn 118 = .ok (.iload 7, 2) := by decide +kernel
theorem dX9_bestIn_120 : decode cX9_bestIn 120 = .ok (.iload 5, 2) := by decide +kernel
theorem dX9_bestIn_122 : decode cX9_bestIn 122 = .ok (.if_icmp .gt 15, 3) := by decide +kernel
theorem dX9_bestIn_125 : decode cX9_bestIn 125 = .ok (.iload 7, 2) := by decide +kernel
theorem dX9_bestIn_127 : decode cX9_bestIn 127 = .ok (.iload 5, 2) := by decide +kernel
theorem dX9_bestIn_129 : decode cX9_bestIn 129 = .ok (.if_icmp .ne 16, 3) := by decide +kernel
theorem dX9_bestIn_132 : decode cX9_bestIn 132 = .ok (.iload 9, 2) := by decide +kernel
theorem dX9_bestIn_134 : decode cX9_bestIn 134 = .ok (.ifCond .eq 11, 3) := by decide +kernel
theorem dX9_bestIn_137 : decode cX9_bestIn 137 = .ok (.iload 6, 2) := by decide +kernel
theorem dX9_bestIn_139 : decode cX9_bestIn 139 = .ok (.istore 4, 2) := by decide +kernel
theorem dX9_bestIn_141 : decode cX9_bestIn 141 = .ok (.iload 7, 2) := by decide +kernel
theorem dX9_bestIn_143 : decode cX9_bestIn 143 = .ok (.istore 5, 2) := by decide +kernel
theorem dX9_bestIn_145 : decode cX9_bestIn 145 = .ok (.iinc 6 1, 3) := by decide +kernel
theorem dX9_bestIn_148 : decode cX9_bestIn 148 = .ok (.goto (-124), 3) := by decide +kernel
theorem dX9_bestIn_151 : decode cX9_bestIn 151 = .ok (.iload 4, 2) := by decide +kernel
theorem dX9_bestIn_153 : decode cX9_bestIn 153 = .ok (.ireturn, 1) := by decide +kernel
theorem dX9_layChoices_0 : decode cX9_layChoices 0 = .ok (.aload_n 0, 1) := by decide +kernel
theorem dX9_layChoices_1 : decode cX9_layChoices 1 = .ok (.invokevirtual 215, 3) := by decide +kernel
theorem dX9_layChoices_4 : decode cX9_layChoices 4 = .ok (.istore_n 1, 1) := by decide +kernel
theorem dX9_layChoices_5 : decode cX9_layChoices 5 = .ok (.iconst 0, 1) := by decide +kernel
theorem dX9_layChoices_6 : decode cX9_layChoices 6 = .ok (.istore_n 2, 1) := by decide +kernel
theorem dX9_layChoices_7 : decode cX9_layChoices 7 = .ok (.iload_n 2, 1) := by decide +kernel
theorem dX9_layChoices_8 : decode cX9_layChoices 8 = .ok (.sipush 500, 3) := by decide +kernel
theorem dX9_layChoices_11 : decode cX9_layChoices 11 = .ok (.if_icmp .ge 22, 3) := by decide +kernel
theorem dX9_layChoices_14 : decode cX9_layChoices 14 = .ok (.aload_n 0, 1) := by decide +kernel
theorem dX9_layChoices_15 : decode cX9_layChoices 15 = .ok (.getfield 55, 3) := by decide +kernel
theorem dX9_layChoices_18 : decode cX9_layChoices 18 = .ok (.sipush 500, 3) := by decide +kernel
theorem dX9_layChoices_21 : decode cX9_layChoices 21 = .ok (.iload_n 1, 1) := by decide +kernel
theorem dX9_layChoices_22 : decode cX9_layChoices 22 = .ok (.imul, 1) := by decide +kernel
theorem dX9_layChoices_23 : decode cX9_layChoices 23 = .ok (.iload_n 2, 1) := by decide +kernel
theorem dX9_layChoices_24 : decode cX9_layChoices 24 = .ok (.iadd, 1) := by decide +kernel
theorem dX9_layChoices_25 : decode cX9_layChoices 25 = .ok (.iconst 0, 1) := by decide +kernel
theorem dX9_layChoices_26 : decode cX9_layChoices 26 = .ok (.iastore, 1) := by decide +kernel
theorem dX9_layChoices_27 : decode cX9_layChoices 27 = .ok (.iinc 2 1, 3) := by decide +kernel
theorem dX9_layChoices_30 : decode cX9_layChoices 30 = .ok (.goto (-23), 3) := by decide +kernel
theorem dX9_layChoices_33 : decode cX9_layChoices 33 = .ok (.iload_n 1, 1) := by decide +kernel
theorem dX9_layChoices_34 : decode cX9_layChoices 34 = .ok (.iconst 1, 1) := by decide +kernel
theorem dX9_layChoices_35 : decode cX9_layChoices 35 = .ok (.isub, 1) := by decide +kernel
theorem dX9_layChoices_36 : decode cX9_layChoices 36 = .ok (.istore_n 2, 1) := by decide +kernel
theorem dX9_layChoices_37 : decode cX9_layChoices 37 = .ok (.iload_n 2, 1) := by decide +kernel
theorem dX9_layChoices_38 : decode cX9_layChoices 38 = .ok (.ifCond .lt 90, 3) := by decide +kernel
theorem dX9_layChoices_41 : decode cX9_layChoices 41 = .ok (.iconst 0, 1) := by decide +kernel
theorem dX9_layChoices_42 : decode cX9_layChoices 42 = .ok (.istore_n 3, 1) := by decide +kernel
theorem dX9_layChoices_43 : decode cX9_layChoices 43 = .ok (.iload_n 3, 1) := by decide +kernel
theorem dX9_layChoices_44 : decode cX9_layChoices 44 = .ok (.aload_n 0, 1) := by decide +kernel
theorem dX9_layChoices_45 : decode cX9_layChoices 45 = .ok (.getfield 167, 3) := by decide +kernel
theorem dX9_layChoices_48 : decode cX9_layChoices 48 = .ok (.if_icmp .gt 74, 3) := by decide +kernel
theorem dX9_layChoices_51 : decode cX9_layChoices 51 = .ok (.aload_n 0, 1) := by decide +kernel
theorem dX9_layChoices_52 : decode cX9_layChoices 52 = .ok (.iload_n 2, 1) := by decide +kernel
theorem dX9_layChoices_53 : decode cX9_layChoices 53 = .ok (.iload_n 3, 1) := by decide +kernel
theorem dX9_layChoices_54 : decode cX9_layChoices 54 = .ok (.invokevirtual 241, 3) := by decide +kernel
theorem dX9_layChoices_57 : decode cX9_layChoices 57 = .ok (.istore 4, 2) := by decide +kernel
theorem dX9_layChoices_59 : decode cX9_layChoices 59 = .ok (.aload_n 0, 1) := by decide +kernel
theorem dX9_layChoices_60 : decode cX9_layChoices 60 = .ok (.getfield 52, 3) := by decide +kernel
theorem dX9_layChoices_63 : decode cX9_layChoices 63 = .ok (.bipush 100, 2) := by decide +kernel
theorem dX9_layChoices_65 : decode cX9_layChoices 65 = .ok (.iload_n 2, 1) := by decide +kernel
theorem dX9_layChoices_66 : decode cX9_layChoices 66 = .ok (.imul, 1) := by decide +kernel
theorem dX9_layChoices_67 : decode cX9_layChoices 67 = .ok (.iload_n 3, 1) := by decide +kernel
theorem dX9_layChoices_68 : decode cX9_layChoices 68 = .ok (.iadd, 1) := by decide +kernel
theorem dX9_layChoices_69 : decode cX9_layChoices 69 = .ok (.iload 4, 2) := by decide +kernel
theorem dX9_layChoices_71 : decode cX9_layChoices 71 = .ok (.iastore, 1) := by decide +kernel
theorem dX9_layChoices_72 : decode cX9_layChoices 72 = .ok (.iconst 0, 1) := by decide +kernel
theorem dX9_layChoices_73 : decode cX9_layChoices 73 = .ok (.istore 5, 2) := by decide +kernel
theorem dX9_layChoices_75 : decode cX9_layChoices 75 = .ok (.iload 5, 2) := by decide +kernel
theorem dX9_layChoices_77 : decode cX9_layChoices 77 = .ok (.aload_n 0, 1) := by decide +kernel
theorem dX9_layChoices_78 : decode cX9_layChoices 78 = .ok (.getfield 113, 3) := by decide +kernel
theorem dX9_layChoices_81 : decode cX9_layChoices 81 = .ok (.if_icmp .ge 35, 3) := by decide +kernel
theorem dX9_layChoices_84 : decode cX9_layChoices 84 = .ok (.aload_n 0, 1) := by decide +kernel
theorem dX9_layChoices_85 : decode cX9_layChoices 85 = .ok (.getfield 55, 3) := by decide +kernel
theorem dX9_layChoices_88 : decode cX9_layChoices 88 = .ok (.bipush 100, 2) := by decide +kernel
theorem dX9_layChoices_90 : decode cX9_layChoices 90 = .ok (.iload_n 2, 1) := by decide +kernel
theorem dX9_layChoices_91 : decode cX9_layChoices 91 = .ok (.imul, 1) := by decide +kernel
theorem dX9_layChoices_92 : decode cX9_layChoices 92 = .ok (.iload_n 3, 1) := by decide +kernel
theorem dX9_layChoices_93 : decode cX9_layChoices 93 = .ok (.iadd, 1) := by decide +kernel
theorem dX9_layChoices_94 : decode cX9_layChoices 94 = .ok (.iconst 5, 1) := by decide +kernel
theorem dX9_layChoices_95 : decode cX9_layChoices 95 = .ok (.imul, 1) := by decide +kernel
theorem dX9_layChoices_96 : decode cX9_layChoices 96 = .ok (.iload 5, 2) := by decide +kernel
theorem dX9_layChoices_98 : decode cX9_layChoices 98 = .ok (.iadd, 1) := by decide +kernel
theorem dX9_layChoices_99 : decode cX9_layChoices 99 = .ok (.aload_n 0, 1) := by decide +kernel
theorem dX9_layChoices_100 : decode cX9_layChoices 100 = .ok (.iload_n 2, 1) := by decide +kernel
theorem dX9_layChoices_101 : decode cX9_layChoices 101 = .ok (.iload_n 3, 1) := by decide +kernel
theorem dX9_layChoices_102 : decode cX9_layChoices 102 = .ok (.iload 4, 2) := by decide +kernel
theorem dX9_layChoices_104 : decode cX9_layChoices 104 = .ok (.iload 5, 2) := by decide +kernel
theorem dX9_layChoices_106 : decode cX9_layChoices 106 = .ok (.invokevirtual 235, 3) := by decide +kernel
theorem dX9_layChoices_109 : decode cX9_layChoices 109 = .ok (.iastore, 1) := by decide +kernel
theorem dX9_layChoices_110 : decode cX9_layChoices 110 = .ok (.iinc 5 1, 3) := by decide +kernel
theorem dX9_layChoices_113 : decode cX9_layChoices 113 = .ok (.goto (-38), 3) := by decide +kernel
theorem dX9_layChoices_116 : decode cX9_layChoices 116 = .ok (.iinc 3 1, 3) := by decide +kernel
theorem dX9_layChoices_119 : decode cX9_layChoices 119 = .ok (.goto (-76), 3) := by decide +kernel
theorem dX9_layChoices_122 : decode cX9_layChoices 122 = .ok (.iinc 2 (-1), 3) := by decide +kernel
theorem dX9_layChoices_125 : decode cX9_layChoices 125 = .ok (.goto (-88), 3) := by decide +kernel
theorem dX9_layChoices_128 : decode cX9_layChoices 128 = .ok (.return_, 1) := by decide +kernel
theorem dX9_goDay_0 : decode cX9_goDay 0 = .ok (.aload_n 0, 1) := by decide +kernel
theorem dX9_goDay_1 : decode cX9_goDay 1 = .ok (.invokevirtual 221, 3) := by decide +kernel
theorem dX9_goDay_4 : decode cX9_goDay 4 = .ok (.iconst 0, 1) := by decide +kernel
theorem dX9_goDay_5 : decode cX9_goDay 5 = .ok (.istore_n 3, 1) := by decide +kernel
theorem dX9_goDay_6 : decode cX9_goDay 6 = .ok (.iload_n 3, 1) := by decide +kernel
theorem dX9_goDay_7 : decode cX9_goDay 7 = .ok (.aload_n 0, 1) := by decide +kernel
theorem dX9_goDay_8 : decode cX9_goDay 8 = .ok (.invokevirtual 215, 3) := by decide +kernel
theorem dX9_goDay_11 : decode cX9_goDay 11 = .ok (.if_icmp .ge 43, 3) := by decide +kernel
theorem dX9_goDay_14 : decode cX9_goDay 14 = .ok (.aload_n 0, 1) := by decide +kernel
theorem dX9_goDay_15 : decode cX9_goDay 15 = .ok (.iload_n 3, 1) := by decide +kernel
theorem dX9_goDay_16 : decode cX9_goDay 16 = .ok (.iload_n 3, 1) := by decide +kernel
theorem dX9_goDay_17 : decode cX9_goDay 17 = .ok (.iload_n 1, 1) := by decide +kernel
theorem dX9_goDay_18 : decode cX9_goDay 18 = .ok (.if_icmp .ne 7, 3) := by decide +kernel
theorem dX9_goDay_21 : decode cX9_goDay 21 = .ok (.iload_n 2, 1) := by decide +kernel
theorem dX9_goDay_22 : decode cX9_goDay 22 = .ok (.goto 19, 3) := by decide +kernel
theorem dX9_goDay_25 : decode cX9_goDay 25 = .ok (.aload_n 0, 1) := by decide +kernel
theorem dX9_goDay_26 : decode cX9_goDay 26 = .ok (.getfield 52, 3) := by decide +kernel
theorem dX9_goDay_29 : decode cX9_goDay 29 = .ok (.bipush 100, 2) := by decide +kernel
theorem dX9_goDay_31 : decode cX9_goDay 31 = .ok (.iload_n 3, 1) := by decide +kernel
theorem dX9_goDay_32 : decode cX9_goDay 32 = .ok (.imul, 1) := by decide +kernel
theorem dX9_goDay_33 : decode cX9_goDay 33 = .ok (.aload_n 0, 1) := by decide +kernel
theorem dX9_goDay_34 : decode cX9_goDay 34 = .ok (.getfield 46, 3) := by decide +kernel
theorem dX9_goDay_37 : decode cX9_goDay 37 = .ok (.iload_n 3, 1) := by decide +kernel
theorem dX9_goDay_38 : decode cX9_goDay 38 = .ok (.iaload, 1) := by decide +kernel
theorem dX9_goDay_39 : decode cX9_goDay 39 = .ok (.iadd, 1) := by decide +kernel
theorem dX9_goDay_40 : decode cX9_goDay 40 = .ok (.iaload, 1) := by decide +kernel
theorem dX9_goDay_41 : decode cX9_goDay 41 = .ok (.aload_n 0, 1) := by decide +kernel
theorem dX9_goDay_42 : decode cX9_goDay 42 = .ok (.getfield 170, 3) := by decide +kernel
theorem dX9_goDay_45 : decode cX9_goDay 45 = .ok (.invokevirtual 224, 3) := by decide +kernel
theorem dX9_goDay_48 : decode cX9_goDay 48 = .ok (.iinc 3 1, 3) := by decide +kernel
theorem dX9_goDay_51 : decode cX9_goDay 51 = .ok (.goto (-45), 3) := by decide +kernel
theorem dX9_goDay_54 : decode cX9_goDay 54 = .ok (.return_, 1) := by decide +kernel
theorem dX9_goFree_0 : decode cX9_goFree 0 = .ok (.aload_n 0, 1) := by decide +kernel
theorem dX9_goFree_1 : decode cX9_goFree 1 = .ok (.invokevirtual 244, 3) := by decide +kernel
theorem dX9_goFree_4 : decode cX9_goFree 4 = .ok (.aload_n 0, 1) := by decide +kernel
theorem dX9_goFree_5 : decode cX9_goFree 5 = .ok (.bipush (-7), 2) := by decide +kernel
theorem dX9_goFree_7 : decode cX9_goFree 7 = .ok (.bipush (-9), 2) := by decide +kernel
theorem dX9_goFree_9 : decode cX9_goFree 9 = .ok (.invokevirtual 247, 3) := by decide +kernel
theorem dX9_goFree_12 : decode cX9_goFree 12 = .ok (.return_, 1) := by decide +kernel
theorem dX9_noTurn_0 : decode cX9_noTurn 0 = .ok (.iload_n 1, 1) := by decide +kernel
theorem dX9_noTurn_1 : decode cX9_noTurn 1 = .ok (.i2l, 1) := by decide +kernel
theorem dX9_noTurn_2 : decode cX9_noTurn 2 = .ok (.lconst 0, 1) := by decide +kernel
theorem dX9_noTurn_3 : decode cX9_noTurn 3 = .ok (.aload_n 0, 1) := by decide +kernel
theorem dX9_noTurn_4 : decode cX9_noTurn 4 = .ok (.invokevirtual 215, 3) := by decide +kernel
theorem dX9_noTurn_7 : decode cX9_noTurn 7 = .ok (.i2l, 1) := by decide +kernel
theorem dX9_noTurn_8 : decode cX9_noTurn 8 = .ok (.lconst 1, 1) := by decide +kernel
theorem dX9_noTurn_9 : decode cX9_noTurn 9 = .ok (.lsub, 1) := by decide +kernel
theorem dX9_noTurn_10 : decode cX9_noTurn 10 = .ok (.invokestatic 102, 3) := by decide +kernel
theorem dX9_noTurn_13 : decode cX9_noTurn 13 = .ok (.ifCond .ne 7, 3) := by decide +kernel
theorem dX9_noTurn_16 : decode cX9_noTurn 16 = .ok (.iconst 1, 1) := by decide +kernel
theorem dX9_noTurn_17 : decode cX9_noTurn 17 = .ok (.goto 4, 3) := by decide +kernel
theorem dX9_noTurn_20 : decode cX9_noTurn 20 = .ok (.iconst 0, 1) := by decide +kernel
theorem dX9_noTurn_21 : decode cX9_noTurn 21 = .ok (.ireturn, 1) := by decide +kernel
theorem dX9_choice_0 : decode cX9_choice 0 = .ok (.aload_n 0, 1) := by decide +kernel
theorem dX9_choice_1 : decode cX9_choice 1 = .ok (.iload_n 1, 1) := by decide +kernel
theorem dX9_choice_2 : decode cX9_choice 2 = .ok (.invokevirtual 251, 3) := by decide +kernel
theorem dX9_choice_5 : decode cX9_choice 5 = .ok (.ifCond .eq 5, 3) := by decide +kernel
theorem dX9_choice_8 : decode cX9_choice 8 = .ok (.iconst (-1), 1) := by decide +kernel
theorem dX9_choice_9 : decode cX9_choice 9 = .ok (.ireturn, 1) := by decide +kernel
theorem dX9_choice_10 : decode cX9_choice 10 = .ok (.iload_n 2, 1) := by decide +kernel
theorem dX9_choice_11 : decode cX9_choice 11 = .ok (.i2l, 1) := by decide +kernel
theorem dX9_choice_12 : decode cX9_choice 12 = .ok (.lconst 0, 1) := by decide +kernel
theorem dX9_choice_13 : decode cX9_choice 13 = .ok (.aload_n 0, 1) := by decide +kernel
theorem dX9_choice_14 : decode cX9_choice 14 = .ok (.getfield 167, 3) := by decide +kernel
theorem dX9_choice_17 : decode cX9_choice 17 = .ok (.i2l, 1) := by decide +kernel
theorem dX9_choice_18 : decode cX9_choice 18 = .ok (.invokestatic 102, 3) := by decide +kernel
theorem dX9_choice_21 : decode cX9_choice 21 = .ok (.ifCond .ne 6, 3) := by decide +kernel
theorem dX9_choice_24 : decode cX9_choice 24 = .ok (.bipush (-2), 2) := by decide +kernel
theorem dX9_choice_26 : decode cX9_choice 26 = .ok (.ireturn, 1) := by decide +kernel
theorem dX9_choice_27 : decode cX9_choice 27 = .ok (.aload_n 0, 1) := by decide +kernel
theorem dX9_choice_28 : decode cX9_choice 28 = .ok (.invokevirtual 244, 3) := by decide +kernel
theorem dX9_choice_31 : decode cX9_choice 31 = .ok (.aload_n 0, 1) := by decide +kernel
theorem dX9_choice_32 : decode cX9_choice 32 = .ok (.getfield 52, 3) := by decide +kernel
theorem dX9_choice_35 : decode cX9_choice 35 = .ok (.bipush 100, 2) := by decide +kernel
theorem dX9_choice_37 : decode cX9_choice 37 = .ok (.iload_n 1, 1) := by decide +kernel
theorem dX9_choice_38 : decode cX9_choice 38 = .ok (.imul, 1) := by decide +kernel
theorem dX9_choice_39 : decode cX9_choice 39 = .ok (.iload_n 2, 1) := by decide +kernel
theorem dX9_choice_40 : decode cX9_choice 40 = .ok (.iadd, 1) := by decide +kernel
theorem dX9_choice_41 : decode cX9_choice 41 = .ok (.iaload, 1) := by decide +kernel
theorem dX9_choice_42 : decode cX9_choice 42 = .ok (.ireturn, 1) := by decide +kernel
theorem dX9_says_0 : decode cX9_says 0 = .ok (.aload_n 0, 1) := by decide +kernel
theorem dX9_says_1 : decode cX9_says 1 = .ok (.iload_n 1, 1) := by decide +kernel
theorem dX9_says_2 : decode cX9_says 2 = .ok (.invokevirtual 251, 3) := by decide +kernel
theorem dX9_says_5 : decode cX9_says 5 = .ok (.ifCond .eq 5, 3) := by decide +kernel
theorem dX9_says_8 : decode cX9_says 8 = .ok (.iconst (-1), 1) := by decide +kernel
theorem dX9_says_9 : decode cX9_says 9 = .ok (.ireturn, 1) := by decide +kernel
theorem dX9_says_10 : decode cX9_says 10 = .ok (.aload_n 0, 1) := by decide +kernel
theorem dX9_says_11 : decode cX9_says 11 = .ok (.invokevirtual 254, 3) := by decide +kernel
theorem dX9_says_14 : decode cX9_says 14 = .ok (.aload_n 0, 1) := by decide +kernel
theorem dX9_says_15 : decode cX9_says 15 = .ok (.getfield 43, 3) := by decide +kernel
theorem dX9_says_18 : decode cX9_says 18 = .ok (.iload_n 1, 1) := by decide +kernel
theorem dX9_says_19 : decode cX9_says 19 = .ok (.iaload, 1) := by decide +kernel
theorem dX9_says_20 : decode cX9_says 20 = .ok (.ireturn, 1) := by decide +kernel
theorem dX9_water_0 : decode cX9_water 0 = .ok (.aload_n 0, 1) := by decide +kernel
theorem dX9_water_1 : decode cX9_water 1 = .ok (.iload_n 1, 1) := by decide +kernel
theorem dX9_water_2 : decode cX9_water 2 = .ok (.invokevirtual 251, 3) := by decide +kernel
theorem dX9_water_5 : decode cX9_water 5 = .ok (.ifCond .eq 5, 3) := by decide +kernel
theorem dX9_water_8 : decode cX9_water 8 = .ok (.iconst (-1), 1) := by decide +kernel
theorem dX9_water_9 : decode cX9_water 9 = .ok (.ireturn, 1) := by decide +kernel
theorem dX9_water_10 : decode cX9_water 10 = .ok (.aload_n 0, 1) := by decide +kernel
theorem dX9_water_11 : decode cX9_water 11 = .ok (.invokevirtual 254, 3) := by decide +kernel
theorem dX9_water_14 : decode cX9_water 14 = .ok (.aload_n 0, 1) := by decide +kernel
theorem dX9_water_15 : decode cX9_water 15 = .ok (.getfield 46, 3) := by decide +kernel
theorem dX9_water_18 : decode cX9_water 18 = .ok (.iload_n 1, 1) := by decide +kernel
theorem dX9_water_19 : decode cX9_water 19 = .ok (.iaload, 1) := by decide +kernel
theorem dX9_water_20 : decode cX9_water 20 = .ok (.ireturn, 1) := by decide +kernel
theorem dX9_worth_0 : decode cX9_worth 0 = .ok (.aload_n 0, 1) := by decide +kernel
theorem dX9_worth_1 : decode cX9_worth 1 = .ok (.iload_n 1, 1) := by decide +kernel
theorem dX9_worth_2 : decode cX9_worth 2 = .ok (.invokevirtual 116, 3) := by decide +kernel
theorem dX9_worth_5 : decode cX9_worth 5 = .ok (.ifCond .eq 5, 3) := by decide +kernel
theorem dX9_worth_8 : decode cX9_worth 8 = .ok (.iconst (-1), 1) := by decide +kernel
theorem dX9_worth_9 : decode cX9_worth 9 = .ok (.ireturn, 1) := by decide +kernel
theorem dX9_worth_10 : decode cX9_worth 10 = .ok (.aload_n 0, 1) := by decide +kernel
theorem dX9_worth_11 : decode cX9_worth 11 = .ok (.invokevirtual 254, 3) := by decide +kernel
theorem dX9_worth_14 : decode cX9_worth 14 = .ok (.aload_n 0, 1) := by decide +kernel
theorem dX9_worth_15 : decode cX9_worth 15 = .ok (.getfield 49, 3) := by decide +kernel
theorem dX9_worth_18 : decode cX9_worth 18 = .ok (.iload_n 1, 1) := by decide +kernel
theorem dX9_worth_19 : decode cX9_worth 19 = .ok (.iaload, 1) := by decide +kernel
theorem dX9_worth_20 : decode cX9_worth 20 = .ok (.ireturn, 1) := by decide +kernel
theorem dX9_worthToAll_0 : decode cX9_worthToAll 0 = .ok (.iconst 0, 1) := by decide +kernel
theorem dX9_worthToAll_1 : decode cX9_worthToAll 1 = .ok (.istore_n 1, 1) := by decide +kernel
theorem dX9_worthToAll_2 : decode cX9_worthToAll 2 = .ok (.iconst 0, 1) := by decide +kernel
theorem dX9_worthToAll_3 : decode cX9_worthToAll 3 = .ok (.istore_n 2, 1) := by decide +kernel
theorem dX9_worthToAll_4 : decode cX9_worthToAll 4 = .ok (.iload_n 2, 1) := by decide +kernel
theorem dX9_worthToAll_5 : decode cX9_worthToAll 5 = .ok (.aload_n 0, 1) := by decide +kernel
theorem dX9_worthToAll_6 : decode cX9_worthToAll 6 = .ok (.getfield 113, 3) := by decide +kernel
theorem dX9_worthToAll_9 : decode cX9_worthToAll 9 = .ok (.if_icmp .ge 18, 3) := by decide +kernel
theorem dX9_worthToAll_12 : decode cX9_worthToAll 12 = .ok (.iload_n 1, 1) := by decide +kernel
theorem dX9_worthToAll_13 : decode cX9_worthToAll 13 = .ok (.aload_n 0, 1) := by decide +kernel
theorem dX9_worthToAll_14 : decode cX9_worthToAll 14 = .ok (.getfield 49, 3) := by decide +kernel
theorem dX9_worthToAll_17 : decode cX9_worthToAll 17 = .ok (.iload_n 2, 1) := by decide +kernel
theorem dX9_worthToAll_18 : decode cX9_worthToAll 18 = .ok (.iaload, 1) := by decide +kernel
theorem dX9_worthToAll_19 : decode cX9_worthToAll 19 = .ok (.iadd, 1) := by decide +kernel
theorem dX9_worthToAll_20 : decode cX9_worthToAll 20 = .ok (.istore_n 1, 1) := by decide +kernel
theorem dX9_worthToAll_21 : decode cX9_worthToAll 21 = .ok (.iinc 2 1, 3) := by decide +kernel
theorem dX9_worthToAll_24 : decode cX9_worthToAll 24 = .ok (.goto (-20), 3) := by decide +kernel
theorem dX9_worthToAll_27 : decode cX9_worthToAll 27 = .ok (.iload_n 1, 1) := by decide +kernel
theorem dX9_worthToAll_28 : decode cX9_worthToAll 28 = .ok (.ireturn, 1) := by decide +kernel
theorem dX9_goRow_0 : decode cX9_goRow 0 = .ok (.iconst 1, 1) := by decide +kernel
theorem dX9_goRow_1 : decode cX9_goRow 1 = .ok (.istore_n 3, 1) := by decide +kernel
theorem dX9_goRow_2 : decode cX9_goRow 2 = .ok (.iconst 1, 1) := by decide +kernel
theorem dX9_goRow_3 : decode cX9_goRow 3 = .ok (.istore 4, 2) := by decide +kernel
theorem dX9_goRow_5 : decode cX9_goRow 5 = .ok (.iload 4, 2) := by decide +kernel
theorem dX9_goRow_7 : decode cX9_goRow 7 = .ok (.iload_n 2, 1) := by decide +kernel
theorem dX9_goRow_8 : decode cX9_goRow 8 = .ok (.if_icmp .ge 13, 3) := by decide +kernel
theorem dX9_goRow_11 : decode cX9_goRow 11 = .ok (.iload_n 3, 1) := by decide +kernel
theorem dX9_goRow_12 : decode cX9_goRow 12 = .ok (.iconst 4, 1) := by decide +kernel
theorem dX9_goRow_13 : decode cX9_goRow 13 = .ok (.imul, 1) := by decide +kernel
theorem dX9_goRow_14 : decode cX9_goRow 14 = .ok (.istore_n 3, 1) := by decide +kernel
theorem dX9_goRow_15 : decode cX9_goRow 15 = .ok (.iinc 4 1, 3) := by decide +kernel
theorem dX9_goRow_18 : decode cX9_goRow 18 = .ok (.goto (-13), 3) := by decide +kernel
theorem dX9_goRow_21 : decode cX9_goRow 21 = .ok (.aload_n 0, 1) := by decide +kernel
theorem dX9_goRow_22 : decode cX9_goRow 22 = .ok (.invokevirtual 221, 3) := by decide +kernel
theorem dX9_goRow_25 : decode cX9_goRow 25 = .ok (.iconst 0, 1) := by decide +kernel
theorem dX9_goRow_26 : decode cX9_goRow 26 = .ok (.istore 4, 2) := by decide +kernel
theorem dX9_goRow_28 : decode cX9_goRow 28 = .ok (.iload 4, 2) := by decide +kernel
theorem dX9_goRow_30 : decode cX9_goRow 30 = .ok (.iload_n 2, 1) := by decide +kernel
theorem dX9_goRow_31 : decode cX9_goRow 31 = .ok (.if_icmp .ge 92, 3) := by decide +kernel
theorem dX9_goRow_34 : decode cX9_goRow 34 = .ok (.iload_n 1, 1) := by decide +kernel
theorem dX9_goRow_35 : decode cX9_goRow 35 = .ok (.iload_n 3, 1) := by decide +kernel
theorem dX9_goRow_36 : decode cX9_goRow 36 = .ok (.idiv, 1) := by decide +kernel
theorem dX9_goRow_37 : decode cX9_goRow 37 = .ok (.iconst 4, 1) := by decide +kernel
theorem dX9_goRow_38 : decode cX9_goRow 38 = .ok (.irem, 1) := by decide +kernel
theorem dX9_goRow_39 : decode cX9_goRow 39 = .ok (.istore 5, 2) := by decide +kernel
theorem dX9_goRow_41 : decode cX9_goRow 41 = .ok (.aload_n 0, 1) := by decide +kernel
theorem dX9_goRow_42 : decode cX9_goRow 42 = .ok (.iload 4, 2) := by decide +kernel
theorem dX9_goRow_44 : decode cX9_goRow 44 = .ok (.invokevirtual 200, 3) := by decide +kernel
theorem dX9_goRow_47 : decode cX9_goRow 47 = .ok (.istore 6, 2) := by decide +kernel
theorem dX9_goRow_49 : decode cX9_goRow 49 = .ok (.iload 5, 2) := by decide +kernel
theorem dX9_goRow_51 : decode cX9_goRow 51 = .ok (.iconst 3, 1) := by decide +kernel
theorem dX9_goRow_52 : decode cX9_goRow 52 = .ok (.if_icmp .ge 34, 3) := by decide +kernel
theorem dX9_goRow_55 : decode cX9_goRow 55 = .ok (.aload_n 0, 1) := by decide +kernel
theorem dX9_goRow_56 : decode cX9_goRow 56 = .ok (.iload 6, 2) := by decide +kernel
theorem dX9_goRow_58 : decode cX9_goRow 58 = .ok (.iload 5, 2) := by decide +kernel
theorem dX9_goRow_60 : decode cX9_goRow 60 = .ok (.invokevirtual 182, 3) := by decide +kernel
theorem dX9_goRow_63 : decode cX9_goRow 63 = .ok (.ifCond .ne 21, 3) := by decide +kernel
theorem dX9_goRow_66 : decode cX9_goRow 66 = .ok (.aload_n 0, 1) := by decide +kernel
theorem dX9_goRow_67 : decode cX9_goRow 67 = .ok (.iload 6, 2) := by decide +kernel
theorem dX9_goRow_69 : decode cX9_goRow 69 = .ok (.iload 5, 2) := by decide +kernel
theorem dX9_goRow_71 : decode cX9_goRow 71 = .ok (.aload_n 0, 1) := by decide +kernel
theorem dX9_goRow_72 : decode cX9_goRow 72 = .ok (.getfield 46, 3) := by decide +kernel
theorem dX9_goRow_75 : decode cX9_goRow 75 = .ok (.iload 4, 2) := by decide +kernel
theorem dX9_goRow_77 : decode cX9_goRow 77 = .ok (.iaload, 1) := by decide +kernel
theorem dX9_goRow_78 : decode cX9_goRow 78 = .ok (.invokevirtual 203, 3) := by decide +kernel
theorem dX9_goRow_81 : decode cX9_goRow 81 = .ok (.ifCond .ne 5, 3) := by decide +kernel
theorem dX9_goRow_84 : decode cX9_goRow 84 = .ok (.iconst 0, 1) := by decide +kernel
theorem dX9_goRow_85 : decode cX9_goRow 85 = .ok (.ireturn, 1) := by decide +kernel
theorem dX9_goRow_86 : decode cX9_goRow 86 = .ok (.aload_n 0, 1) := by decide +kernel
theorem dX9_goRow_87 : decode cX9_goRow 87 = .ok (.iload 4, 2) := by decide +kernel
theorem dX9_goRow_89 : decode cX9_goRow 89 = .ok (.iload 5, 2) := by decide +kernel
theorem dX9_goRow_91 : decode cX9_goRow 91 = .ok (.iconst 3, 1) := by decide +kernel
theorem dX9_goRow_92 : decode cX9_goRow 92 = .ok (.if_icmp .ne 8, 3) := by decide +kernel
theorem dX9_goRow_95 : decode cX9_goRow 95 = .ok (.bipush (-9), 2) := by decide +kernel
theorem dX9_goRow_97 : decode cX9_goRow 97 = .ok (.goto 5, 3) := by decide +kernel
theorem dX9_goRow_100 : decode cX9_goRow 100 = .ok (.iload 5, 2) := by decide +kernel
theorem dX9_goRow_102 : decode cX9_goRow 102 = .ok (.aload_n 0, 1) := by decide +kernel
theorem dX9_goRow_103 : decode cX9_goRow 103 = .ok (.getfield 170, 3) := by decide +kernel
theorem dX9_goRow_106 : decode cX9_goRow 106 = .ok (.invokevirtual 224, 3) := by decide +kernel
theorem dX9_goRow_109 : decode cX9_goRow 109 = .ok (.iconst 1, 1) := by decide +kernel
theorem dX9_goRow_110 : decode cX9_goRow 110 = .ok (.iload_n 3, 1) := by decide +kernel
theorem dX9_goRow_111 : decode cX9_goRow 111 = .ok (.iconst 4, 1) := by decide +kernel
theorem dX9_goRow_112 : decode cX9_goRow 112 = .ok (.idiv, 1) := by decide +kernel
theorem dX9_goRow_113 : decode cX9_goRow 113 = .ok (.invokestatic 191, 3) := by decide +kernel
theorem dX9_goRow_116 : decode cX9_goRow 116 = .ok (.istore_n 3, 1) := by decide +kernel
theorem dX9_goRow_117 : decode cX9_goRow 117 = .ok (.iinc 4 1, 3) := by decide +kernel
theorem dX9_goRow_120 : decode cX9_goRow 120 = .ok (.goto (-92), 3) := by decide +kernel
theorem dX9_goRow_123 : decode cX9_goRow 123 = .ok (.iconst 1, 1) := by decide +kernel
theorem dX9_goRow_124 : decode cX9_goRow 124 = .ok (.ireturn, 1) := by decide +kernel
theorem dX9_together_0 : decode cX9_together 0 = .ok (.iload_n 1, 1) := by decide +kernel
theorem dX9_together_1 : decode cX9_together 1 = .ok (.i2l, 1) := by decide +kernel
theorem dX9_together_2 : decode cX9_together 2 = .ok (.ldc2_w 257, 3) := by decide +kernel
theorem dX9_together_5 : decode cX9_together 5 = .ok (.aload_n 0, 1) := by decide +kernel
theorem dX9_together_6 : decode cX9_together 6 = .ok (.invokevirtual 215, 3) := by decide +kernel
theorem dX9_together_9 : decode cX9_together 9 = .ok (.i2l, 1) := by decide +kernel
theorem dX9_together_10 : decode cX9_together 10 = .ok (.lconst 1, 1) := by decide +kernel
theorem dX9_together_11 : decode cX9_together 11 = .ok (.lsub, 1) := by decide +kernel
theorem dX9_together_12 : decode cX9_together 12 = .ok (.invokestatic 102, 3) := by decide +kernel
theorem dX9_together_15 : decode cX9_together 15 = .ok (.ifCond .ne 5, 3) := by decide +kernel
theorem dX9_together_18 : decode cX9_together 18 = .ok (.iconst (-1), 1) := by decide +kernel
theorem dX9_together_19 : decode cX9_together 19 = .ok (.ireturn, 1) := by decide +kernel
theorem dX9_together_20 : decode cX9_together 20 = .ok (.aload_n 0, 1) := by decide +kernel
theorem dX9_together_21 : decode cX9_together 21 = .ok (.getfield 113, 3) := by decide +kernel
theorem dX9_together_24 : decode cX9_together 24 = .ok (.ifCond .ne 6, 3) := by decide +kernel
theorem dX9_together_27 : decode cX9_together 27 = .ok (.bipush (-3), 2) := by decide +kernel
theorem dX9_together_29 : decode cX9_together 29 = .ok (.ireturn, 1) := by decide +kernel
theorem dX9_together_30 : decode cX9_together 30 = .ok (.aload_n 0, 1) := by decide +kernel
theorem dX9_together_31 : decode cX9_together 31 = .ok (.invokevirtual 215, 3) := by decide +kernel
theorem dX9_together_34 : decode cX9_together 34 = .ok (.istore_n 2, 1) := by decide +kernel
theorem dX9_together_35 : decode cX9_together 35 = .ok (.iconst 1, 1) := by decide +kernel
theorem dX9_together_36 : decode cX9_together 36 = .ok (.istore_n 3, 1) := by decide +kernel
theorem dX9_together_37 : decode cX9_together 37 = .ok (.iconst 0, 1) := by decide +kernel
theorem dX9_together_38 : decode cX9_together 38 = .ok (.istore 4, 2) := by decide +kernel
theorem dX9_together_40 : decode cX9_together 40 = .ok (.iload 4, 2) := by decide +kernel
theorem dX9_together_42 : decode cX9_together 42 = .ok (.iload_n 2, 1) := by decide +kernel
theorem dX9_together_43 : decode cX9_together 43 = .ok (.if_icmp .ge 13, 3) := by decide +kernel
theorem dX9_together_46 : decode cX9_together 46 = .ok (.iload_n 3, 1) := by decide +kernel
theorem dX9_together_47 : decode cX9_together 47 = .ok (.iconst 4, 1) := by decide +kernel
theorem dX9_together_48 : decode cX9_together 48 = .ok (.imul, 1) := by decide +kernel
theorem dX9_together_49 : decode cX9_together 49 = .ok (.istore_n 3, 1) := by decide +kernel
theorem dX9_together_50 : decode cX9_together 50 = .ok (.iinc 4 1, 3) := by decide +kernel
theorem dX9_together_53 : decode cX9_together 53 = .ok (.goto (-13), 3) := by decide +kernel
theorem dX9_together_56 : decode cX9_together 56 = .ok (.bipush (-9), 2) := by decide +kernel
theorem dX9_together_58 : decode cX9_together 58 = .ok (.istore 4, 2) := by decide +kernel
theorem dX9_together_60 : decode cX9_together 60 = .ok (.iconst 0, 1) := by decide +kernel
theorem dX9_together_61 : decode cX9_together 61 = .ok (.istore 5, 2) := by decide +kernel
theorem dX9_together_63 : decode cX9_together 63 = .ok (.iload 5, 2) := by decide +kernel
theorem dX9_together_65 : decode cX9_together 65 = .ok (.iload_n 3, 1) := by decide +kernel
theorem dX9_together_66 : decode cX9_together 66 = .ok (.if_icmp .ge 63, 3) := by decide +kernel
theorem dX9_together_69 : decode cX9_together 69 = .ok (.aload_n 0, 1) := by decide +kernel
theorem dX9_together_70 : decode cX9_together 70 = .ok (.iload 5, 2) := by decide +kernel
theorem dX9_together_72 : decode cX9_together 72 = .ok (.iload_n 2, 1) := by decide +kernel
theorem dX9_together_73 : decode cX9_together 73 = .ok (.invokevirtual 259, 3) := by decide +kernel
theorem dX9_together_76 : decode cX9_together 76 = .ok (.ifCond .eq 47, 3) := by decide +kernel
theorem dX9_together_79 : decode cX9_together 79 = .ok (.aload_n 0, 1) := by decide +kernel
theorem dX9_together_80 : decode cX9_together 80 = .ok (.invokevirtual 262, 3) := by decide +kernel
theorem dX9_together_83 : decode cX9_together 83 = .ok (.iload 4, 2) := by decide +kernel
theorem dX9_together_85 : decode cX9_together 85 = .ok (.if_icmp .le 38, 3) := by decide +kernel
theorem dX9_together_88 : decode cX9_together 88 = .ok (.aload_n 0, 1) := by decide +kernel
theorem dX9_together_89 : decode cX9_together 89 = .ok (.invokevirtual 262, 3) := by decide +kernel
theorem dX9_together_92 : decode cX9_together 92 = .ok (.istore 4, 2) := by decide +kernel
theorem dX9_together_94 : decode cX9_together 94 = .ok (.iconst 0, 1) := by decide +kernel
theorem dX9_together_95 : decode cX9_together 95 = .ok (.istore 6, 2) := by decide +kernel
theorem dX9_together_97 : decode cX9_together 97 = .ok (.iload 6, 2) := by decide +kernel
theorem dX9_together_99 : decode cX9_together 99 = .ok (.iload_n 2, 1) := by decide +kernel
theorem dX9_together_100 : decode cX9_together 100 = .ok (.if_icmp .ge 23, 3) := by decide +kernel
theorem dX9_together_103 : decode cX9_together 103 = .ok (.aload_n 0, 1) := by decide +kernel
theorem dX9_together_104 : decode cX9_together 104 = .ok (.getfield 58, 3) := by decide +kernel
theorem dX9_together_107 : decode cX9_together 107 = .ok (.iload 6, 2) := by decide +kernel
theorem dX9_together_109 : decode cX9_together 109 = .ok (.aload_n 0, 1) := by decide +kernel
theorem dX9_together_110 : decode cX9_together 110 = .ok (.getfield 43, 3) := by decide +kernel
theorem dX9_together_113 : decode cX9_together 113 = .ok (.iload 6, 2) := by decide +kernel
theorem dX9_together_115 : decode cX9_together 115 = .ok (.iaload, 1) := by decide +kernel
theorem dX9_together_116 : decode cX9_together 116 = .ok (.iastore, 1) := by decide +kernel
theorem dX9_together_117 : decode cX9_together 117 = .ok (.iinc 6 1, 3) := by decide +kernel
theorem dX9_together_120 : decode cX9_together 120 = .ok (.goto (-23), 3) := by decide +kernel
theorem dX9_together_123 : decode cX9_together 123 = .ok (.iinc 5 1, 3) := by decide +kernel
theorem dX9_together_126 : decode cX9_together 126 = .ok (.goto (-63), 3) := by decide +kernel
theorem dX9_together_129 : decode cX9_together 129 = .ok (.iload_n 1, 1) := by decide +kernel
theorem dX9_together_130 : decode cX9_together 130 = .ok (.ifCond .ge 8, 3) := by decide +kernel
theorem dX9_together_133 : decode cX9_together 133 = .ok (.iload 4, 2) := by decide +kernel
theorem dX9_together_135 : decode cX9_together 135 = .ok (.goto 9, 3) := by decide +kernel
theorem dX9_together_138 : decode cX9_together 138 = .ok (.aload_n 0, 1) := by decide +kernel
theorem dX9_together_139 : decode cX9_together 139 = .ok (.getfield 58, 3) := by decide +kernel
theorem dX9_together_142 : decode cX9_together 142 = .ok (.iload_n 1, 1) := by decide +kernel
theorem dX9_together_143 : decode cX9_together 143 = .ok (.iaload, 1) := by decide +kernel
theorem dX9_together_144 : decode cX9_together 144 = .ok (.ireturn, 1) := by decide +kernel
theorem dX9_longestBy_0 : decode cX9_longestBy 0 = .ok (.bipush (-9), 2) := by decide +kernel
theorem dX9_longestBy_2 : decode cX9_longestBy 2 = .ok (.istore_n 3, 1) := by decide +kernel
theorem dX9_longestBy_3 : decode cX9_longestBy 3 = .ok (.iconst 0, 1) := by decide +kernel
theorem dX9_longestBy_4 : decode cX9_longestBy 4 = .ok (.istore 4, 2) := by decide +kernel
theorem dX9_longestBy_6 : decode cX9_longestBy 6 = .ok (.iload 4, 2) := by decide +kernel
theorem dX9_longestBy_8 : decode cX9_longestBy 8 = .ok (.aload_n 0, 1) := by decide +kernel
theorem dX9_longestBy_9 : decode cX9_longestBy 9 = .ok (.getfield 13, 3) := by decide +kernel
theorem dX9_longestBy_12 : decode cX9_longestBy 12 = .ok (.iload_n 1, 1) := by decide +kernel
theorem dX9_longestBy_13 : decode cX9_longestBy 13 = .ok (.iaload, 1) := by decide +kernel
theorem dX9_longestBy_14 : decode cX9_longestBy 14 = .ok (.if_icmp .ge 43, 3) := by decide +kernel
theorem dX9_longestBy_17 : decode cX9_longestBy 17 = .ok (.aload_n 0, 1) := by decide +kernel
theorem dX9_longestBy_18 : decode cX9_longestBy 18 = .ok (.iload_n 1, 1) := by decide +kernel
theorem dX9_longestBy_19 : decode cX9_longestBy 19 = .ok (.iload 4, 2) := by decide +kernel
theorem dX9_longestBy_21 : decode cX9_longestBy 21 = .ok (.iload_n 2, 1) := by decide +kernel
theorem dX9_longestBy_22 : decode cX9_longestBy 22 = .ok (.invokevirtual 203, 3) := by decide +kernel
theorem dX9_longestBy_25 : decode cX9_longestBy 25 = .ok (.ifCond .eq 24, 3) := by decide +kernel
theorem dX9_longestBy_28 : decode cX9_longestBy 28 = .ok (.aload_n 0, 1) := by decide +kernel
theorem dX9_longestBy_29 : decode cX9_longestBy 29 = .ok (.iload_n 1, 1) := by decide +kernel
theorem dX9_longestBy_30 : decode cX9_longestBy 30 = .ok (.iload 4, 2) := by decide +kernel
theorem dX9_longestBy_32 : decode cX9_longestBy 32 = .ok (.invokevirtual 238, 3) := by decide +kernel
theorem dX9_longestBy_35 : decode cX9_longestBy 35 = .ok (.aload_n 0, 1) := by decide +kernel
theorem dX9_longestBy_36 : decode cX9_longestBy 36 = .ok (.iload_n 1, 1) := by decide +kernel
theorem dX9_longestBy_37 : decode cX9_longestBy 37 = .ok (.iload_n 3, 1) := by decide +kernel
theorem dX9_longestBy_38 : decode cX9_longestBy 38 = .ok (.invokevirtual 238, 3) := by decide +kernel
theorem dX9_longestBy_41 : decode cX9_longestBy 41 = .ok (.if_icmp .le 8, 3) := by decide +kernel
theorem dX9_longestBy_44 : decode cX9_longestBy 44 = .ok (.iload 4, 2) := by decide +kernel
theorem dX9_longestBy_46 : decode cX9_longestBy 46 = .ok (.goto 4, 3) := by decide +kernel
theorem dX9_longestBy_49 : decode cX9_longestBy 49 = .ok (.iload_n 3, 1) := by decide +kernel
theorem dX9_longestBy_50 : decode cX9_longestBy 50 = .ok (.istore_n 3, 1) := by decide +kernel
theorem dX9_longestBy_51 : decode cX9_longestBy 51 = .ok (.iinc 4 1, 3) := by decide +kernel
theorem dX9_longestBy_54 : decode cX9_longestBy 54 = .ok (.goto (-48), 3) := by decide +kernel
theorem dX9_longestBy_57 : decode cX9_longestBy 57 = .ok (.iload_n 3, 1) := by decide +kernel
theorem dX9_longestBy_58 : decode cX9_longestBy 58 = .ok (.ireturn, 1) := by decide +kernel
theorem dX9_owed_0 : decode cX9_owed 0 = .ok (.aload_n 0, 1) := by decide +kernel
theorem dX9_owed_1 : decode cX9_owed 1 = .ok (.iload_n 1, 1) := by decide +kernel
theorem dX9_owed_2 : decode cX9_owed 2 = .ok (.invokevirtual 116, 3) := by decide +kernel
theorem dX9_owed_5 : decode cX9_owed 5 = .ok (.ifCond .ne 16, 3) := by decide +kernel
theorem dX9_owed_8 : decode cX9_owed 8 = .ok (.aload_n 0, 1) := by decide +kernel
theorem dX9_owed_9 : decode cX9_owed 9 = .ok (.iload_n 2, 1) := by decide +kernel
theorem dX9_owed_10 : decode cX9_owed 10 = .ok (.invokevirtual 116, 3) := by decide +kernel
theorem dX9_owed_13 : decode cX9_owed 13 = .ok (.ifCond .ne 8, 3) := by decide +kernel
theorem dX9_owed_16 : decode cX9_owed 16 = .ok (.iload_n 1, 1) := by decide +kernel
theorem dX9_owed_17 : decode cX9_owed 17 = .ok (.iload_n 2, 1) := by decide +kernel
theorem dX9_owed_18 : decode cX9_owed 18 = .ok (.if_icmp .ne 7, 3) := by decide +kernel
theorem dX9_owed_21 : decode cX9_owed 21 = .ok (.invokestatic 88, 3) := by decide +kernel
theorem dX9_owed_24 : decode cX9_owed 24 = .ok (.lreturn, 1) := by decide +kernel
theorem dX9_owed_25 : decode cX9_owed 25 = .ok (.aload_n 0, 1) := by decide +kernel
theorem dX9_owed_26 : decode cX9_owed 26 = .ok (.invokevirtual 254, 3) := by decide +kernel
theorem dX9_owed_29 : decode cX9_owed 29 = .ok (.aload_n 0, 1) := by decide +kernel
theorem dX9_owed_30 : decode cX9_owed 30 = .ok (.iload_n 1, 1) := by decide +kernel
theorem dX9_owed_31 : decode cX9_owed 31 = .ok (.invokevirtual 179, 3) := by decide +kernel
theorem dX9_owed_34 : decode cX9_owed 34 = .ok (.istore_n 3, 1) := by decide +kernel
theorem dX9_owed_35 : decode cX9_owed 35 = .ok (.aload_n 0, 1) := by decide +kernel
theorem dX9_owed_36 : decode cX9_owed 36 = .ok (.iload_n 1, 1) := by decide +kernel
theorem dX9_owed_37 : decode cX9_owed 37 = .ok (.aload_n 0, 1) := by decide +kernel
theorem dX9_owed_38 : decode cX9_owed 38 = .ok (.getfield 46, 3) := by decide +kernel
theorem dX9_owed_41 : decode cX9_owed 41 = .ok (.iload_n 3, 1) := by decide +kernel
theorem dX9_owed_42 : decode cX9_owed 42 = .ok (.iaload, 1) := by decide +kernel
theorem dX9_owed_43 : decode cX9_owed 43 = .ok (.invokevirtual 265, 3) := by decide +kernel
theorem dX9_owed_46 : decode cX9_owed 46 = .ok (.istore 4, 2) := by decide +kernel
theorem dX9_owed_48 : decode cX9_owed 48 = .ok (.aload_n 0, 1) := by decide +kernel
theorem dX9_owed_49 : decode cX9_owed 49 = .ok (.iload_n 3, 1) := by decide +kernel
theorem dX9_owed_50 : decode cX9_owed 50 = .ok (.bipush (-9), 2) := by decide +kernel
theorem dX9_owed_52 : decode cX9_owed 52 = .ok (.invokevirtual 247, 3) := by decide +kernel
theorem dX9_owed_55 : decode cX9_owed 55 = .ok (.aload_n 0, 1) := by decide +kernel
theorem dX9_owed_56 : decode cX9_owed 56 = .ok (.getfield 49, 3) := by decide +kernel
theorem dX9_owed_59 : decode cX9_owed 59 = .ok (.iload_n 2, 1) := by decide +kernel
theorem dX9_owed_60 : decode cX9_owed 60 = .ok (.iaload, 1) := by decide +kernel
theorem dX9_owed_61 : decode cX9_owed 61 = .ok (.istore 5, 2) := by decide +kernel
theorem dX9_owed_63 : decode cX9_owed 63 = .ok (.aload_n 0, 1) := by decide +kernel
theorem dX9_owed_64 : decode cX9_owed 64 = .ok (.iload_n 3, 1) := by decide +kernel
theorem dX9_owed_65 : decode cX9_owed 65 = .ok (.iload 4, 2) := by decide +kernel
theorem dX9_owed_67 : decode cX9_owed 67 = .ok (.invokevirtual 247, 3) := by decide +kernel
theorem dX9_owed_70 : decode cX9_owed 70 = .ok (.iload 5, 2) := by decide +kernel
theorem dX9_owed_72 : decode cX9_owed 72 = .ok (.aload_n 0, 1) := by decide +kernel
theorem dX9_owed_73 : decode cX9_owed 73 = .ok (.getfield 49, 3) := by decide +kernel
theorem dX9_owed_76 : decode cX9_owed 76 = .ok (.iload_n 2, 1) := by decide +kernel
theorem dX9_owed_77 : decode cX9_owed 77 = .ok (.iaload, 1) := by decide +kernel
theorem dX9_owed_78 : decode cX9_owed 78 = .ok (.isub, 1) := by decide +kernel
theorem dX9_owed_79 : decode cX9_owed 79 = .ok (.i2l, 1) := by decide +kernel
theorem dX9_owed_80 : decode cX9_owed 80 = .ok (.lreturn, 1) := by decide +kernel
theorem dX9_bargain_0 : decode cX9_bargain 0 = .ok (.aload_n 0, 1) := by decide +kernel
theorem dX9_bargain_1 : decode cX9_bargain 1 = .ok (.iload_n 1, 1) := by decide +kernel
theorem dX9_bargain_2 : decode cX9_bargain 2 = .ok (.invokevirtual 116, 3) := by decide +kernel
theorem dX9_bargain_5 : decode cX9_bargain 5 = .ok (.ifCond .ne 16, 3) := by decide +kernel
theorem dX9_bargain_8 : decode cX9_bargain 8 = .ok (.aload_n 0, 1) := by decide +kernel
theorem dX9_bargain_9 : decode cX9_bargain 9 = .ok (.iload_n 2, 1) := by decide +kernel
theorem dX9_bargain_10 : decode cX9_bargain 10 = .ok (.invokevirtual 116, 3) := by decide +kernel
theorem dX9_bargain_13 : decode cX9_bargain 13 = .ok (.ifCond .ne 8, 3) := by decide +kernel
theorem dX9_bargain_16 : decode cX9_bargain 16 = .ok (.iload_n 1, 1) := by decide +kernel
theorem dX9_bargain_17 : decode cX9_bargain 17 = .ok (.iload_n 2, 1) := by decide +kernel
theorem dX9_bargain_18 : decode cX9_bargain 18 = .ok (.if_icmp .ne 7, 3) := by decide +kernel
theorem dX9_bargain_21 : decode cX9_bargain 21 = .ok (.invokestatic 88, 3) := by decide +kernel
theorem dX9_bargain_24 : decode cX9_bargain 24 = .ok (.lreturn, 1) := by decide +kernel
theorem dX9_bargain_25 : decode cX9_bargain 25 = .ok (.aload_n 0, 1) := by decide +kernel
theorem dX9_bargain_26 : decode cX9_bargain 26 = .ok (.invokevirtual 254, 3) := by decide +kernel
theorem dX9_bargain_29 : decode cX9_bargain 29 = .ok (.aload_n 0, 1) := by decide +kernel
theorem dX9_bargain_30 : decode cX9_bargain 30 = .ok (.getfield 49, 3) := by decide +kernel
theorem dX9_bargain_33 : decode cX9_bargain 33 = .ok (.iload_n 1, 1) := by decide +kernel
theorem dX9_bargain_34 : decode cX9_bargain 34 = .ok (.iaload, 1) := by decide +kernel
theorem dX9_bargain_35 : decode cX9_bargain 35 = .ok (.aload_n 0, 1) := by decide +kernel
theorem dX9_bargain_36 : decode cX9_bargain 36 = .ok (.getfield 49, 3) := by decide +kernel
theorem dX9_bargain_39 : decode cX9_bargain 39 = .ok (.iload_n 2, 1) := by decide +kernel
theorem dX9_bargain_40 : decode cX9_bargain 40 = .ok (.iaload, 1) := by decide +kernel
theorem dX9_bargain_41 : decode cX9_bargain 41 = .ok (.iadd, 1) := by decide +kernel
theorem dX9_bargain_42 : decode cX9_bargain 42 = .ok (.istore_n 3, 1) := by decide +kernel
theorem dX9_bargain_43 : decode cX9_bargain 43 = .ok (.aload_n 0, 1) := by decide +kernel
theorem dX9_bargain_44 : decode cX9_bargain 44 = .ok (.aload_n 0, 1) := by decide +kernel
theorem dX9_bargain_45 : decode cX9_bargain 45 = .ok (.iload_n 1, 1) := by decide +kernel
theorem dX9_bargain_46 : decode cX9_bargain 46 = .ok (.invokevirtual 179, 3) := by decide +kernel
theorem dX9_bargain_49 : decode cX9_bargain 49 = .ok (.bipush (-9), 2) := by decide +kernel
theorem dX9_bargain_51 : decode cX9_bargain 51 = .ok (.invokevirtual 247, 3) := by decide +kernel
theorem dX9_bargain_54 : decode cX9_bargain 54 = .ok (.aload_n 0, 1) := by decide +kernel
theorem dX9_bargain_55 : decode cX9_bargain 55 = .ok (.getfield 49, 3) := by decide +kernel
theorem dX9_bargain_58 : decode cX9_bargain 58 = .ok (.iload_n 1, 1) := by decide +kernel
theorem dX9_bargain_59 : decode cX9_bargain 59 = .ok (.iaload, 1) := by decide +kernel
theorem dX9_bargain_60 : decode cX9_bargain 60 = .ok (.aload_n 0, 1) := by decide +kernel
theorem dX9_bargain_61 : decode cX9_bargain 61 = .ok (.getfield 49, 3) := by decide +kernel
theorem dX9_bargain_64 : decode cX9_bargain 64 = .ok (.iload_n 2, 1) := by decide +kernel
theorem dX9_bargain_65 : decode cX9_bargain 65 = .ok (.iaload, 1) := by decide +kernel
theorem dX9_bargain_66 : decode cX9_bargain 66 = .ok (.iadd, 1) := by decide +kernel
theorem dX9_bargain_67 : decode cX9_bargain 67 = .ok (.iload_n 3, 1) := by decide +kernel
theorem dX9_bargain_68 : decode cX9_bargain 68 = .ok (.isub, 1) := by decide +kernel
theorem dX9_bargain_69 : decode cX9_bargain 69 = .ok (.i2l, 1) := by decide +kernel
theorem dX9_bargain_70 : decode cX9_bargain 70 = .ok (.lreturn, 1) := by decide +kernel
theorem dX9_isSaid_0 : decode cX9_isSaid 0 = .ok (.iconst 0, 1) := by decide +kernel
theorem dX9_isSaid_1 : decode cX9_isSaid 1 = .ok (.istore_n 3, 1) := by decide +kernel
theorem dX9_isSaid_2 : decode cX9_isSaid 2 = .ok (.iconst 0, 1) := by decide +kernel
theorem dX9_isSaid_3 : decode cX9_isSaid 3 = .ok (.istore 4, 2) := by decide +kernel
theorem dX9_isSaid_5 : decode cX9_isSaid 5 = .ok (.iload 4, 2) := by decide +kernel
theorem dX9_isSaid_7 : decode cX9_isSaid 7 = .ok (.aload_n 0, 1) := by decide +kernel
theorem dX9_isSaid_8 : decode cX9_isSaid 8 = .ok (.invokevirtual 215, 3) := by decide +kernel
theorem dX9_isSaid_11 : decode cX9_isSaid 11 = .ok (.if_icmp .ge 40, 3) := by decide +kernel
theorem dX9_isSaid_14 : decode cX9_isSaid 14 = .ok (.iload_n 3, 1) := by decide +kernel
theorem dX9_isSaid_15 : decode cX9_isSaid 15 = .ok (.ifCond .ne 24, 3) := by decide +kernel
theorem dX9_isSaid_18 : decode cX9_isSaid 18 = .ok (.aload_n 0, 1) := by decide +kernel
theorem dX9_isSaid_19 : decode cX9_isSaid 19 = .ok (.iload 4, 2) := by decide +kernel
theorem dX9_isSaid_21 : decode cX9_isSaid 21 = .ok (.invokevirtual 200, 3) := by decide +kernel
theorem dX9_isSaid_24 : decode cX9_isSaid 24 = .ok (.iload_n 1, 1) := by decide +kernel
theorem dX9_isSaid_25 : decode cX9_isSaid 25 = .ok (.if_icmp .ne 18, 3) := by decide +kernel
theorem dX9_isSaid_28 : decode cX9_isSaid 28 = .ok (.aload_n 0, 1) := by decide +kernel
theorem dX9_isSaid_29 : decode cX9_isSaid 29 = .ok (.getfield 43, 3) := by decide +kernel
theorem dX9_isSaid_32 : decode cX9_isSaid 32 = .ok (.iload 4, 2) := by decide +kernel
theorem dX9_isSaid_34 : decode cX9_isSaid 34 = .ok (.iaload, 1) := by decide +kernel
theorem dX9_isSaid_35 : decode cX9_isSaid 35 = .ok (.iload_n 2, 1) := by decide +kernel
theorem dX9_isSaid_36 : decode cX9_isSaid 36 = .ok (.if_icmp .ne 7, 3) := by decide +kernel
theorem dX9_isSaid_39 : decode cX9_isSaid 39 = .ok (.iconst 1, 1) := by decide +kernel
theorem dX9_isSaid_40 : decode cX9_isSaid 40 = .ok (.goto 4, 3) := by decide +kernel
theorem dX9_isSaid_43 : decode cX9_isSaid 43 = .ok (.iconst 0, 1) := by decide +kernel
theorem dX9_isSaid_44 : decode cX9_isSaid 44 = .ok (.istore_n 3, 1) := by decide +kernel
theorem dX9_isSaid_45 : decode cX9_isSaid 45 = .ok (.iinc 4 1, 3) := by decide +kernel
theorem dX9_isSaid_48 : decode cX9_isSaid 48 = .ok (.goto (-43), 3) := by decide +kernel
theorem dX9_isSaid_51 : decode cX9_isSaid 51 = .ok (.iload_n 3, 1) := by decide +kernel
theorem dX9_isSaid_52 : decode cX9_isSaid 52 = .ok (.ireturn, 1) := by decide +kernel
theorem dX9_layOrder_0 : decode cX9_layOrder 0 = .ok (.iload_n 1, 1) := by decide +kernel
theorem dX9_layOrder_1 : decode cX9_layOrder 1 = .ok (.istore_n 2, 1) := by decide +kernel
theorem dX9_layOrder_2 : decode cX9_layOrder 2 = .ok (.iconst 0, 1) := by decide +kernel
theorem dX9_layOrder_3 : decode cX9_layOrder 3 = .ok (.istore_n 3, 1) := by decide +kernel
theorem dX9_layOrder_4 : decode cX9_layOrder 4 = .ok (.aload_n 0, 1) := by decide +kernel
theorem dX9_layOrder_5 : decode cX9_layOrder 5 = .ok (.getfield 113, 3) := by decide +kernel
theorem dX9_layOrder_8 : decode cX9_layOrder 8 = .ok (.iconst 1, 1) := by decide +kernel
theorem dX9_layOrder_9 : decode cX9_layOrder 9 = .ok (.isub, 1) := by decide +kernel
theorem dX9_layOrder_10 : decode cX9_layOrder 10 = .ok (.istore 4, 2) := by decide +kernel
theorem dX9_layOrder_12 : decode cX9_layOrder 12 = .ok (.iload 4, 2) := by decide +kernel
theorem dX9_layOrder_14 : decode cX9_layOrder 14 = .ok (.ifCond .lt 58, 3) := by decide +kernel
theorem dX9_layOrder_17 : decode cX9_layOrder 17 = .ok (.aload_n 0, 1) := by decide +kernel
theorem dX9_layOrder_18 : decode cX9_layOrder 18 = .ok (.getfield 25, 3) := by decide +kernel
theorem dX9_layOrder_21 : decode cX9_layOrder 21 = .ok (.iload 4, 2) := by decide +kernel
theorem dX9_layOrder_23 : decode cX9_layOrder 23 = .ok (.iload_n 2, 1) := by decide +kernel
theorem dX9_layOrder_24 : decode cX9_layOrder 24 = .ok (.aload_n 0, 1) := by decide +kernel
theorem dX9_layOrder_25 : decode cX9_layOrder 25 = .ok (.getfield 113, 3) := by decide +kernel
theorem dX9_layOrder_28 : decode cX9_layOrder 28 = .ok (.irem, 1) := by decide +kernel
theorem dX9_layOrder_29 : decode cX9_layOrder 29 = .ok (.iastore, 1) := by decide +kernel
theorem dX9_layOrder_30 : decode cX9_layOrder 30 = .ok (.iload_n 2, 1) := by decide +kernel
theorem dX9_layOrder_31 : decode cX9_layOrder 31 = .ok (.aload_n 0, 1) := by decide +kernel
theorem dX9_layOrder_32 : decode cX9_layOrder 32 = .ok (.getfield 113, 3) := by decide +kernel
theorem dX9_layOrder_35 : decode cX9_layOrder 35 = .ok (.idiv, 1) := by decide +kernel
theorem dX9_layOrder_36 : decode cX9_layOrder 36 = .ok (.istore_n 2, 1) := by decide +kernel
theorem dX9_layOrder_37 : decode cX9_layOrder 37 = .ok (.iload_n 3, 1) := by decide +kernel
theorem dX9_layOrder_38 : decode cX9_layOrder 38 = .ok (.aload_n 0, 1) := by decide +kernel
theorem dX9_layOrder_39 : decode cX9_layOrder 39 = .ok (.getfield 25, 3) := by decide +kernel
theorem dX9_layOrder_42 : decode cX9_layOrder 42 = .ok (.iload 4, 2) := by decide +kernel
theorem dX9_layOrder_44 : decode cX9_layOrder 44 = .ok (.iaload, 1) := by decide +kernel
theorem dX9_layOrder_45 : decode cX9_layOrder 45 = .ok (.ishr, 1) := by decide +kernel
theorem dX9_layOrder_46 : decode cX9_layOrder 46 = .ok (.iconst 1, 1) := by decide +kernel
theorem dX9_layOrder_47 : decode cX9_layOrder 47 = .ok (.iand, 1) := by decide +kernel
theorem dX9_layOrder_48 : decode cX9_layOrder 48 = .ok (.iconst 1, 1) := by decide +kernel
theorem dX9_layOrder_49 : decode cX9_layOrder 49 = .ok (.if_icmp .ne 5, 3) := by decide +kernel
theorem dX9_layOrder_52 : decode cX9_layOrder 52 = .ok (.iconst 0, 1) := by decide +kernel
theorem dX9_layOrder_53 : decode cX9_layOrder 53 = .ok (.ireturn, 1) := by decide +kernel
theorem dX9_layOrder_54 : decode cX9_layOrder 54 = .ok (.iload_n 3, 1) := by decide +kernel
theorem dX9_layOrder_55 : decode cX9_layOrder 55 = .ok (.iconst 1, 1) := by decide +kernel
theorem dX9_layOrder_56 : decode cX9_layOrder 56 = .ok (.aload_n 0, 1) := by decide +kernel
theorem dX9_layOrder_57 : decode cX9_layOrder 57 = .ok (.getfield 25, 3) := by decide +kernel
theorem dX9_layOrder_60 : decode cX9_layOrder 60 = .ok (.iload 4, 2) := by decide +kernel
theorem dX9_layOrder_62 : decode cX9_layOrder 62 = .ok (.iaload, 1) := by decide +kernel
theorem dX9_layOrder_63 : decode cX9_layOrder 63 = .ok (.ishl, 1) := by decide +kernel
theorem dX9_layOrder_64 : decode cX9_layOrder 64 = .ok (.ior, 1) := by decide +kernel
theorem dX9_layOrder_65 : decode cX9_layOrder 65 = .ok (.istore_n 3, 1) := by decide +kernel
theorem dX9_layOrder_66 : decode cX9_layOrder 66 = .ok (.iinc 4 (-1), 3) := by decide +kernel
theorem dX9_layOrder_69 : decode cX9_layOrder 69 = .ok (.goto (-57), 3) := by decide +kernel
theorem dX9_layOrder_72 : decode cX9_layOrder 72 = .ok (.iconst 1, 1) := by decide +kernel
theorem dX9_layOrder_73 : decode cX9_layOrder 73 = .ok (.ireturn, 1) := by decide +kernel
theorem dX9_otherPlaces_0 : decode cX9_otherPlaces 0 = .ok (.iconst 0, 1) := by decide +kernel
theorem dX9_otherPlaces_1 : decode cX9_otherPlaces 1 = .ok (.istore_n 1, 1) := by decide +kernel
theorem dX9_otherPlaces_2 : decode cX9_otherPlaces 2 = .ok (.iconst 0, 1) := by decide +kernel
theorem dX9_otherPlaces_3 : decode cX9_otherPlaces 3 = .ok (.istore_n 2, 1) := by decide +kernel
theorem dX9_otherPlaces_4 : decode cX9_otherPlaces 4 = .ok (.iload_n 2, 1) := by decide +kernel
theorem dX9_otherPlaces_5 : decode cX9_otherPlaces 5 = .ok (.aload_n 0, 1) := by decide +kernel
theorem dX9_otherPlaces_6 : decode cX9_otherPlaces 6 = .ok (.getfield 113, 3) := by decide +kernel
theorem dX9_otherPlaces_9 : decode cX9_otherPlaces 9 = .ok (.if_icmp .ge 32, 3) := by decide +kernel
theorem dX9_otherPlaces_12 : decode cX9_otherPlaces 12 = .ok (.iload_n 1, 1) := by decide +kernel
theorem dX9_otherPlaces_13 : decode cX9_otherPlaces 13 = .ok (.aload_n 0, 1) := by decide +kernel
theorem dX9_otherPlaces_14 : decode cX9_otherPlaces 14 = .ok (.getfield 25, 3) := by decide +kernel
theorem dX9_otherPlaces_17 : decode cX9_otherPlaces 17 = .ok (.iload_n 2, 1) := by decide +kernel
theorem dX9_otherPlaces_18 : decode cX9_otherPlaces 18 = .ok (.iaload, 1) := by decide +kernel
theorem dX9_otherPlaces_19 : decode cX9_otherPlaces 19 = .ok (.aload_n 0, 1) := by decide +kernel
theorem dX9_otherPlaces_20 : decode cX9_otherPlaces 20 = .ok (.getfield 61, 3) := by decide +kernel
theorem dX9_otherPlaces_23 : decode cX9_otherPlaces 23 = .ok (.iload_n 2, 1) := by decide +kernel
theorem dX9_otherPlaces_24 : decode cX9_otherPlaces 24 = .ok (.iaload, 1) := by decide +kernel
theorem dX9_otherPlaces_25 : decode cX9_otherPlaces 25 = .ok (.if_icmp .ne 7, 3) := by decide +kernel
theorem dX9_otherPlaces_28 : decode cX9_otherPlaces 28 = .ok (.iconst 0, 1) := by decide +kernel
theorem dX9_otherPlaces_29 : decode cX9_otherPlaces 29 = .ok (.goto 4, 3) := by decide +kernel
