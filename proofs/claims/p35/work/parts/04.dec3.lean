theorem dX8_dry_14 : decode cX8_dry 14 = .ok (.aload_n 0, 1) := by decide +kernel
theorem dX8_dry_15 : decode cX8_dry 15 = .ok (.invokevirtual 216, 3) := by decide +kernel
theorem dX8_dry_18 : decode cX8_dry 18 = .ok (.iconst 0, 1) := by decide +kernel
theorem dX8_dry_19 : decode cX8_dry 19 = .ok (.istore_n 3, 1) := by decide +kernel
theorem dX8_dry_20 : decode cX8_dry 20 = .ok (.iconst 0, 1) := by decide +kernel
theorem dX8_dry_21 : decode cX8_dry 21 = .ok (.istore 4, 2) := by decide +kernel
theorem dX8_dry_23 : decode cX8_dry 23 = .ok (.iload 4, 2) := by decide +kernel
theorem dX8_dry_25 : decode cX8_dry 25 = .ok (.aload_n 0, 1) := by decide +kernel
theorem dX8_dry_26 : decode cX8_dry 26 = .ok (.getfield 32, 3) := by decide +kernel
theorem dX8_dry_29 : decode cX8_dry 29 = .ok (.getfield 132, 3) := by decide +kernel
theorem dX8_dry_32 : decode cX8_dry 32 = .ok (.if_icmp .ge 39, 3) := by decide +kernel
theorem dX8_dry_35 : decode cX8_dry 35 = .ok (.iload 4, 2) := by decide +kernel
theorem dX8_dry_37 : decode cX8_dry 37 = .ok (.iconst 5, 1) := by decide +kernel
theorem dX8_dry_38 : decode cX8_dry 38 = .ok (.if_icmp .ge 33, 3) := by decide +kernel
theorem dX8_dry_41 : decode cX8_dry 41 = .ok (.iload 4, 2) := by decide +kernel
theorem dX8_dry_43 : decode cX8_dry 43 = .ok (.iload_n 1, 1) := by decide +kernel
theorem dX8_dry_44 : decode cX8_dry 44 = .ok (.if_icmp .eq 21, 3) := by decide +kernel
theorem dX8_dry_47 : decode cX8_dry 47 = .ok (.aload_n 0, 1) := by decide +kernel
theorem dX8_dry_48 : decode cX8_dry 48 = .ok (.iload 4, 2) := by decide +kernel
theorem dX8_dry_50 : decode cX8_dry 50 = .ok (.iload_n 1, 1) := by decide +kernel
theorem dX8_dry_51 : decode cX8_dry 51 = .ok (.iload_n 2, 1) := by decide +kernel
theorem dX8_dry_52 : decode cX8_dry 52 = .ok (.invokevirtual 268, 3) := by decide +kernel
theorem dX8_dry_55 : decode cX8_dry 55 = .ok (.ifCond .eq 10, 3) := by decide +kernel
theorem dX8_dry_58 : decode cX8_dry 58 = .ok (.iload_n 3, 1) := by decide +kernel
theorem dX8_dry_59 : decode cX8_dry 59 = .ok (.iconst 1, 1) := by decide +kernel
theorem dX8_dry_60 : decode cX8_dry 60 = .ok (.iload 4, 2) := by decide +kernel
theorem dX8_dry_62 : decode cX8_dry 62 = .ok (.ishl, 1) := by decide +kernel
theorem dX8_dry_63 : decode cX8_dry 63 = .ok (.ior, 1) := by decide +kernel
theorem dX8_dry_64 : decode cX8_dry 64 = .ok (.istore_n 3, 1) := by decide +kernel
theorem dX8_dry_65 : decode cX8_dry 65 = .ok (.iinc 4 1, 3) := by decide +kernel
theorem dX8_dry_68 : decode cX8_dry 68 = .ok (.goto (-45), 3) := by decide +kernel
theorem dX8_dry_71 : decode cX8_dry 71 = .ok (.iload_n 3, 1) := by decide +kernel
theorem dX8_dry_72 : decode cX8_dry 72 = .ok (.ireturn, 1) := by decide +kernel
theorem dX8_canSilence_0 : decode cX8_canSilence 0 = .ok (.aload_n 0, 1) := by decide +kernel
theorem dX8_canSilence_1 : decode cX8_canSilence 1 = .ok (.getfield 54, 3) := by decide +kernel
theorem dX8_canSilence_4 : decode cX8_canSilence 4 = .ok (.iload_n 1, 1) := by decide +kernel
theorem dX8_canSilence_5 : decode cX8_canSilence 5 = .ok (.invokevirtual 145, 3) := by decide +kernel
theorem dX8_canSilence_8 : decode cX8_canSilence 8 = .ok (.istore 4, 2) := by decide +kernel
theorem dX8_canSilence_10 : decode cX8_canSilence 10 = .ok (.aload_n 0, 1) := by decide +kernel
theorem dX8_canSilence_11 : decode cX8_canSilence 11 = .ok (.getfield 72, 3) := by decide +kernel
theorem dX8_canSilence_14 : decode cX8_canSilence 14 = .ok (.iload 4, 2) := by decide +kernel
theorem dX8_canSilence_16 : decode cX8_canSilence 16 = .ok (.bipush (-9), 2) := by decide +kernel
theorem dX8_canSilence_18 : decode cX8_canSilence 18 = .ok (.invokevirtual 249, 3) := by decide +kernel
theorem dX8_canSilence_21 : decode cX8_canSilence 21 = .ok (.aload_n 0, 1) := by decide +kernel
theorem dX8_canSilence_22 : decode cX8_canSilence 22 = .ok (.getfield 72, 3) := by decide +kernel
theorem dX8_canSilence_25 : decode cX8_canSilence 25 = .ok (.iload_n 2, 1) := by decide +kernel
theorem dX8_canSilence_26 : decode cX8_canSilence 26 = .ok (.iload_n 3, 1) := by decide +kernel
theorem dX8_canSilence_27 : decode cX8_canSilence 27 = .ok (.invokevirtual 271, 3) := by decide +kernel
theorem dX8_canSilence_30 : decode cX8_canSilence 30 = .ok (.ifCond .ne 7, 3) := by decide +kernel
theorem dX8_canSilence_33 : decode cX8_canSilence 33 = .ok (.iconst 1, 1) := by decide +kernel
theorem dX8_canSilence_34 : decode cX8_canSilence 34 = .ok (.goto 4, 3) := by decide +kernel
theorem dX8_canSilence_37 : decode cX8_canSilence 37 = .ok (.iconst 0, 1) := by decide +kernel
theorem dX8_canSilence_38 : decode cX8_canSilence 38 = .ok (.istore 5, 2) := by decide +kernel
theorem dX8_canSilence_40 : decode cX8_canSilence 40 = .ok (.iconst 0, 1) := by decide +kernel
theorem dX8_canSilence_41 : decode cX8_canSilence 41 = .ok (.istore 6, 2) := by decide +kernel
theorem dX8_canSilence_43 : decode cX8_canSilence 43 = .ok (.iload 6, 2) := by decide +kernel
theorem dX8_canSilence_45 : decode cX8_canSilence 45 = .ok (.aload_n 0, 1) := by decide +kernel
theorem dX8_canSilence_46 : decode cX8_canSilence 46 = .ok (.getfield 32, 3) := by decide +kernel
theorem dX8_canSilence_49 : decode cX8_canSilence 49 = .ok (.iload_n 1, 1) := by decide +kernel
theorem dX8_canSilence_50 : decode cX8_canSilence 50 = .ok (.invokevirtual 142, 3) := by decide +kernel
theorem dX8_canSilence_53 : decode cX8_canSilence 53 = .ok (.if_icmp .ge 50, 3) := by decide +kernel
theorem dX8_canSilence_56 : decode cX8_canSilence 56 = .ok (.iload 6, 2) := by decide +kernel
theorem dX8_canSilence_58 : decode cX8_canSilence 58 = .ok (.iconst 3, 1) := by decide +kernel
theorem dX8_canSilence_59 : decode cX8_canSilence 59 = .ok (.if_icmp .ge 44, 3) := by decide +kernel
theorem dX8_canSilence_62 : decode cX8_canSilence 62 = .ok (.iload 5, 2) := by decide +kernel
theorem dX8_canSilence_64 : decode cX8_canSilence 64 = .ok (.ifCond .ne 39, 3) := by decide +kernel
theorem dX8_canSilence_67 : decode cX8_canSilence 67 = .ok (.aload_n 0, 1) := by decide +kernel
theorem dX8_canSilence_68 : decode cX8_canSilence 68 = .ok (.getfield 72, 3) := by decide +kernel
theorem dX8_canSilence_71 : decode cX8_canSilence 71 = .ok (.iload 4, 2) := by decide +kernel
theorem dX8_canSilence_73 : decode cX8_canSilence 73 = .ok (.iload 6, 2) := by decide +kernel
theorem dX8_canSilence_75 : decode cX8_canSilence 75 = .ok (.invokevirtual 249, 3) := by decide +kernel
theorem dX8_canSilence_78 : decode cX8_canSilence 78 = .ok (.aload_n 0, 1) := by decide +kernel
theorem dX8_canSilence_79 : decode cX8_canSilence 79 = .ok (.getfield 72, 3) := by decide +kernel
theorem dX8_canSilence_82 : decode cX8_canSilence 82 = .ok (.iload_n 2, 1) := by decide +kernel
theorem dX8_canSilence_83 : decode cX8_canSilence 83 = .ok (.iload_n 3, 1) := by decide +kernel
theorem dX8_canSilence_84 : decode cX8_canSilence 84 = .ok (.invokevirtual 271, 3) := by decide +kernel
theorem dX8_canSilence_87 : decode cX8_canSilence 87 = .ok (.ifCond .ne 7, 3) := by decide +kernel
theorem dX8_canSilence_90 : decode cX8_canSilence 90 = .ok (.iconst 1, 1) := by decide +kernel
theorem dX8_canSilence_91 : decode cX8_canSilence 91 = .ok (.goto 4, 3) := by decide +kernel
theorem dX8_canSilence_94 : decode cX8_canSilence 94 = .ok (.iconst 0, 1) := by decide +kernel
theorem dX8_canSilence_95 : decode cX8_canSilence 95 = .ok (.istore 5, 2) := by decide +kernel
theorem dX8_canSilence_97 : decode cX8_canSilence 97 = .ok (.iinc 6 1, 3) := by decide +kernel
theorem dX8_canSilence_100 : decode cX8_canSilence 100 = .ok (.goto (-57), 3) := by decide +kernel
theorem dX8_canSilence_103 : decode cX8_canSilence 103 = .ok (.iload 5, 2) := by decide +kernel
theorem dX8_canSilence_105 : decode cX8_canSilence 105 = .ok (.ireturn, 1) := by decide +kernel
theorem dX8_day_0 : decode cX8_day 0 = .ok (.aload_n 0, 1) := by decide +kernel
theorem dX8_day_1 : decode cX8_day 1 = .ok (.getfield 54, 3) := by decide +kernel
theorem dX8_day_4 : decode cX8_day 4 = .ok (.invokevirtual 189, 3) := by decide +kernel
theorem dX8_day_7 : decode cX8_day 7 = .ok (.istore 5, 2) := by decide +kernel
theorem dX8_day_9 : decode cX8_day 9 = .ok (.aload_n 0, 1) := by decide +kernel
theorem dX8_day_10 : decode cX8_day 10 = .ok (.getfield 25, 3) := by decide +kernel
theorem dX8_day_13 : decode cX8_day 13 = .ok (.iload_n 1, 1) := by decide +kernel
theorem dX8_day_14 : decode cX8_day 14 = .ok (.iload_n 2, 1) := by decide +kernel
theorem dX8_day_15 : decode cX8_day 15 = .ok (.iload_n 3, 1) := by decide +kernel
theorem dX8_day_16 : decode cX8_day 16 = .ok (.iload 5, 2) := by decide +kernel
theorem dX8_day_18 : decode cX8_day 18 = .ok (.invokevirtual 105, 3) := by decide +kernel
theorem dX8_day_21 : decode cX8_day 21 = .ok (.istore 6, 2) := by decide +kernel
theorem dX8_day_23 : decode cX8_day 23 = .ok (.iload 6, 2) := by decide +kernel
theorem dX8_day_25 : decode cX8_day 25 = .ok (.ifCond .eq 10, 3) := by decide +kernel
theorem dX8_day_28 : decode cX8_day 28 = .ok (.aload_n 0, 1) := by decide +kernel
theorem dX8_day_29 : decode cX8_day 29 = .ok (.iload 6, 2) := by decide +kernel
theorem dX8_day_31 : decode cX8_day 31 = .ok (.invokevirtual 109, 3) := by decide +kernel
theorem dX8_day_34 : decode cX8_day 34 = .ok (.ireturn, 1) := by decide +kernel
theorem dX8_day_35 : decode cX8_day 35 = .ok (.aload_n 0, 1) := by decide +kernel
theorem dX8_day_36 : decode cX8_day 36 = .ok (.getfield 32, 3) := by decide +kernel
theorem dX8_day_39 : decode cX8_day 39 = .ok (.getfield 132, 3) := by decide +kernel
theorem dX8_day_42 : decode cX8_day 42 = .ok (.ifCond .ne 10, 3) := by decide +kernel
theorem dX8_day_45 : decode cX8_day 45 = .ok (.aload_n 0, 1) := by decide +kernel
theorem dX8_day_46 : decode cX8_day 46 = .ok (.bipush (-3), 2) := by decide +kernel
theorem dX8_day_48 : decode cX8_day 48 = .ok (.invokevirtual 109, 3) := by decide +kernel
theorem dX8_day_51 : decode cX8_day 51 = .ok (.ireturn, 1) := by decide +kernel
theorem dX8_day_52 : decode cX8_day 52 = .ok (.aload_n 0, 1) := by decide +kernel
theorem dX8_day_53 : decode cX8_day 53 = .ok (.iload_n 1, 1) := by decide +kernel
theorem dX8_day_54 : decode cX8_day 54 = .ok (.iload_n 3, 1) := by decide +kernel
theorem dX8_day_55 : decode cX8_day 55 = .ok (.iload 5, 2) := by decide +kernel
theorem dX8_day_57 : decode cX8_day 57 = .ok (.invokevirtual 193, 3) := by decide +kernel
theorem dX8_day_60 : decode cX8_day 60 = .ok (.ifCond .ne 9, 3) := by decide +kernel
theorem dX8_day_63 : decode cX8_day 63 = .ok (.aload_n 0, 1) := by decide +kernel
theorem dX8_day_64 : decode cX8_day 64 = .ok (.iconst (-1), 1) := by decide +kernel
theorem dX8_day_65 : decode cX8_day 65 = .ok (.invokevirtual 109, 3) := by decide +kernel
theorem dX8_day_68 : decode cX8_day 68 = .ok (.ireturn, 1) := by decide +kernel
theorem dX8_day_69 : decode cX8_day 69 = .ok (.iload 4, 2) := by decide +kernel
theorem dX8_day_71 : decode cX8_day 71 = .ok (.ifCond .lt 10, 3) := by decide +kernel
theorem dX8_day_74 : decode cX8_day 74 = .ok (.iload 4, 2) := by decide +kernel
theorem dX8_day_76 : decode cX8_day 76 = .ok (.bipush 99, 2) := by decide +kernel
theorem dX8_day_78 : decode cX8_day 78 = .ok (.if_icmp .le 10, 3) := by decide +kernel
theorem dX8_day_81 : decode cX8_day 81 = .ok (.aload_n 0, 1) := by decide +kernel
theorem dX8_day_82 : decode cX8_day 82 = .ok (.bipush (-2), 2) := by decide +kernel
theorem dX8_day_84 : decode cX8_day 84 = .ok (.invokevirtual 109, 3) := by decide +kernel
theorem dX8_day_87 : decode cX8_day 87 = .ok (.ireturn, 1) := by decide +kernel
theorem dX8_day_88 : decode cX8_day 88 = .ok (.aload_n 0, 1) := by decide +kernel
theorem dX8_day_89 : decode cX8_day 89 = .ok (.getfield 88, 3) := by decide +kernel
theorem dX8_day_92 : decode cX8_day 92 = .ok (.getfield 274, 3) := by decide +kernel
theorem dX8_day_95 : decode cX8_day 95 = .ok (.bipush 6, 2) := by decide +kernel
theorem dX8_day_97 : decode cX8_day 97 = .ok (.if_icmp .lt 10, 3) := by decide +kernel
theorem dX8_day_100 : decode cX8_day 100 = .ok (.aload_n 0, 1) := by decide +kernel
theorem dX8_day_101 : decode cX8_day 101 = .ok (.bipush (-4), 2) := by decide +kernel
theorem dX8_day_103 : decode cX8_day 103 = .ok (.invokevirtual 109, 3) := by decide +kernel
theorem dX8_day_106 : decode cX8_day 106 = .ok (.ireturn, 1) := by decide +kernel
theorem dX8_day_107 : decode cX8_day 107 = .ok (.iconst 0, 1) := by decide +kernel
theorem dX8_day_108 : decode cX8_day 108 = .ok (.istore 7, 2) := by decide +kernel
theorem dX8_day_110 : decode cX8_day 110 = .ok (.iload 7, 2) := by decide +kernel
theorem dX8_day_112 : decode cX8_day 112 = .ok (.iload 5, 2) := by decide +kernel
theorem dX8_day_114 : decode cX8_day 114 = .ok (.if_icmp .ge 37, 3) := by decide +kernel
theorem dX8_day_117 : decode cX8_day 117 = .ok (.iload 7, 2) := by decide +kernel
theorem dX8_day_119 : decode cX8_day 119 = .ok (.bipush 6, 2) := by decide +kernel
theorem dX8_day_121 : decode cX8_day 121 = .ok (.if_icmp .ge 30, 3) := by decide +kernel
theorem dX8_day_124 : decode cX8_day 124 = .ok (.aload_n 0, 1) := by decide +kernel
theorem dX8_day_125 : decode cX8_day 125 = .ok (.getfield 88, 3) := by decide +kernel
theorem dX8_day_128 : decode cX8_day 128 = .ok (.iload 7, 2) := by decide +kernel
theorem dX8_day_130 : decode cX8_day 130 = .ok (.aload_n 0, 1) := by decide +kernel
theorem dX8_day_131 : decode cX8_day 131 = .ok (.getfield 25, 3) := by decide +kernel
theorem dX8_day_134 : decode cX8_day 134 = .ok (.iload_n 1, 1) := by decide +kernel
theorem dX8_day_135 : decode cX8_day 135 = .ok (.iload_n 3, 1) := by decide +kernel
theorem dX8_day_136 : decode cX8_day 136 = .ok (.iload 7, 2) := by decide +kernel
theorem dX8_day_138 : decode cX8_day 138 = .ok (.iadd, 1) := by decide +kernel
theorem dX8_day_139 : decode cX8_day 139 = .ok (.invokevirtual 200, 3) := by decide +kernel
theorem dX8_day_142 : decode cX8_day 142 = .ok (.invokevirtual 275, 3) := by decide +kernel
theorem dX8_day_145 : decode cX8_day 145 = .ok (.iinc 7 1, 3) := by decide +kernel
theorem dX8_day_148 : decode cX8_day 148 = .ok (.goto (-38), 3) := by decide +kernel
theorem dX8_day_151 : decode cX8_day 151 = .ok (.aload_n 0, 1) := by decide +kernel
theorem dX8_day_152 : decode cX8_day 152 = .ok (.aload_n 0, 1) := by decide +kernel
theorem dX8_day_153 : decode cX8_day 153 = .ok (.getfield 88, 3) := by decide +kernel
theorem dX8_day_156 : decode cX8_day 156 = .ok (.iload 4, 2) := by decide +kernel
theorem dX8_day_158 : decode cX8_day 158 = .ok (.invokevirtual 278, 3) := by decide +kernel
theorem dX8_day_161 : decode cX8_day 161 = .ok (.invokevirtual 109, 3) := by decide +kernel
theorem dX8_day_164 : decode cX8_day 164 = .ok (.ireturn, 1) := by decide +kernel
theorem dX8_back_0 : decode cX8_back 0 = .ok (.iload_n 1, 1) := by decide +kernel
theorem dX8_back_1 : decode cX8_back 1 = .ok (.ifCond .lt 14, 3) := by decide +kernel
theorem dX8_back_4 : decode cX8_back 4 = .ok (.iload_n 1, 1) := by decide +kernel
theorem dX8_back_5 : decode cX8_back 5 = .ok (.aload_n 0, 1) := by decide +kernel
theorem dX8_back_6 : decode cX8_back 6 = .ok (.getfield 88, 3) := by decide +kernel
theorem dX8_back_9 : decode cX8_back 9 = .ok (.getfield 274, 3) := by decide +kernel
theorem dX8_back_12 : decode cX8_back 12 = .ok (.if_icmp .le 6, 3) := by decide +kernel
theorem dX8_back_15 : decode cX8_back 15 = .ok (.bipush (-2), 2) := by decide +kernel
theorem dX8_back_17 : decode cX8_back 17 = .ok (.ireturn, 1) := by decide +kernel
theorem dX8_back_18 : decode cX8_back 18 = .ok (.aload_n 0, 1) := by decide +kernel
theorem dX8_back_19 : decode cX8_back 19 = .ok (.getfield 88, 3) := by decide +kernel
theorem dX8_back_22 : decode cX8_back 22 = .ok (.dup, 1) := by decide +kernel
theorem dX8_back_23 : decode cX8_back 23 = .ok (.getfield 274, 3) := by decide +kernel
theorem dX8_back_26 : decode cX8_back 26 = .ok (.iload_n 1, 1) := by decide +kernel
theorem dX8_back_27 : decode cX8_back 27 = .ok (.isub, 1) := by decide +kernel
theorem dX8_back_28 : decode cX8_back 28 = .ok (.putfield 274, 3) := by decide +kernel
theorem dX8_back_31 : decode cX8_back 31 = .ok (.aload_n 0, 1) := by decide +kernel
theorem dX8_back_32 : decode cX8_back 32 = .ok (.getfield 88, 3) := by decide +kernel
theorem dX8_back_35 : decode cX8_back 35 = .ok (.getfield 274, 3) := by decide +kernel
theorem dX8_back_38 : decode cX8_back 38 = .ok (.ireturn, 1) := by decide +kernel
theorem dX8_guess_0 : decode cX8_guess 0 = .ok (.iload_n 1, 1) := by decide +kernel
theorem dX8_guess_1 : decode cX8_guess 1 = .ok (.ifCond .eq 11, 3) := by decide +kernel
theorem dX8_guess_4 : decode cX8_guess 4 = .ok (.iload_n 1, 1) := by decide +kernel
theorem dX8_guess_5 : decode cX8_guess 5 = .ok (.iconst 1, 1) := by decide +kernel
theorem dX8_guess_6 : decode cX8_guess 6 = .ok (.if_icmp .eq 6, 3) := by decide +kernel
theorem dX8_guess_9 : decode cX8_guess 9 = .ok (.bipush (-2), 2) := by decide +kernel
theorem dX8_guess_11 : decode cX8_guess 11 = .ok (.ireturn, 1) := by decide +kernel
theorem dX8_guess_12 : decode cX8_guess 12 = .ok (.aload_n 0, 1) := by decide +kernel
theorem dX8_guess_13 : decode cX8_guess 13 = .ok (.getfield 32, 3) := by decide +kernel
theorem dX8_guess_16 : decode cX8_guess 16 = .ok (.getfield 132, 3) := by decide +kernel
theorem dX8_guess_19 : decode cX8_guess 19 = .ok (.ifCond .ne 6, 3) := by decide +kernel
theorem dX8_guess_22 : decode cX8_guess 22 = .ok (.bipush (-3), 2) := by decide +kernel
theorem dX8_guess_24 : decode cX8_guess 24 = .ok (.ireturn, 1) := by decide +kernel
theorem dX8_guess_25 : decode cX8_guess 25 = .ok (.aload_n 0, 1) := by decide +kernel
theorem dX8_guess_26 : decode cX8_guess 26 = .ok (.getfield 76, 3) := by decide +kernel
theorem dX8_guess_29 : decode cX8_guess 29 = .ok (.aload_n 0, 1) := by decide +kernel
theorem dX8_guess_30 : decode cX8_guess 30 = .ok (.getfield 54, 3) := by decide +kernel
theorem dX8_guess_33 : decode cX8_guess 33 = .ok (.invokevirtual 231, 3) := by decide +kernel
theorem dX8_guess_36 : decode cX8_guess 36 = .ok (.aload_n 0, 1) := by decide +kernel
theorem dX8_guess_37 : decode cX8_guess 37 = .ok (.getfield 88, 3) := by decide +kernel
theorem dX8_guess_40 : decode cX8_guess 40 = .ok (.aload_n 0, 1) := by decide +kernel
theorem dX8_guess_41 : decode cX8_guess 41 = .ok (.getfield 76, 3) := by decide +kernel
theorem dX8_guess_44 : decode cX8_guess 44 = .ok (.aload_n 0, 1) := by decide +kernel
theorem dX8_guess_45 : decode cX8_guess 45 = .ok (.getfield 82, 3) := by decide +kernel
theorem dX8_guess_48 : decode cX8_guess 48 = .ok (.invokevirtual 281, 3) := by decide +kernel
theorem dX8_guess_51 : decode cX8_guess 51 = .ok (.iconst 0, 1) := by decide +kernel
theorem dX8_guess_52 : decode cX8_guess 52 = .ok (.istore_n 2, 1) := by decide +kernel
theorem dX8_guess_53 : decode cX8_guess 53 = .ok (.bipush (-9), 2) := by decide +kernel
theorem dX8_guess_55 : decode cX8_guess 55 = .ok (.istore_n 3, 1) := by decide +kernel
theorem dX8_guess_56 : decode cX8_guess 56 = .ok (.iconst 0, 1) := by decide +kernel
theorem dX8_guess_57 : decode cX8_guess 57 = .ok (.istore 4, 2) := by decide +kernel
theorem dX8_guess_59 : decode cX8_guess 59 = .ok (.iload 4, 2) := by decide +kernel
theorem dX8_guess_61 : decode cX8_guess 61 = .ok (.aload_n 0, 1) := by decide +kernel
theorem dX8_guess_62 : decode cX8_guess 62 = .ok (.getfield 88, 3) := by decide +kernel
theorem dX8_guess_65 : decode cX8_guess 65 = .ok (.getfield 274, 3) := by decide +kernel
theorem dX8_guess_68 : decode cX8_guess 68 = .ok (.if_icmp .gt 68, 3) := by decide +kernel
theorem dX8_guess_71 : decode cX8_guess 71 = .ok (.iload 4, 2) := by decide +kernel
theorem dX8_guess_73 : decode cX8_guess 73 = .ok (.bipush 6, 2) := by decide +kernel
theorem dX8_guess_75 : decode cX8_guess 75 = .ok (.if_icmp .gt 61, 3) := by decide +kernel
theorem dX8_guess_78 : decode cX8_guess 78 = .ok (.iconst 0, 1) := by decide +kernel
theorem dX8_guess_79 : decode cX8_guess 79 = .ok (.istore 5, 2) := by decide +kernel
theorem dX8_guess_81 : decode cX8_guess 81 = .ok (.iload 5, 2) := by decide +kernel
theorem dX8_guess_83 : decode cX8_guess 83 = .ok (.bipush 9, 2) := by decide +kernel
theorem dX8_guess_85 : decode cX8_guess 85 = .ok (.if_icmp .gt 45, 3) := by decide +kernel
theorem dX8_guess_88 : decode cX8_guess 88 = .ok (.aload_n 0, 1) := by decide +kernel
theorem dX8_guess_89 : decode cX8_guess 89 = .ok (.getfield 88, 3) := by decide +kernel
theorem dX8_guess_92 : decode cX8_guess 92 = .ok (.iload 4, 2) := by decide +kernel
theorem dX8_guess_94 : decode cX8_guess 94 = .ok (.iload 5, 2) := by decide +kernel
theorem dX8_guess_96 : decode cX8_guess 96 = .ok (.invokevirtual 284, 3) := by decide +kernel
theorem dX8_guess_99 : decode cX8_guess 99 = .ok (.ifCond .eq 25, 3) := by decide +kernel
theorem dX8_guess_102 : decode cX8_guess 102 = .ok (.iinc 2 1, 3) := by decide +kernel
theorem dX8_guess_105 : decode cX8_guess 105 = .ok (.iload_n 3, 1) := by decide +kernel
theorem dX8_guess_106 : decode cX8_guess 106 = .ok (.bipush (-9), 2) := by decide +kernel
theorem dX8_guess_108 : decode cX8_guess 108 = .ok (.if_icmp .ne 14, 3) := by decide +kernel
theorem dX8_guess_111 : decode cX8_guess 111 = .ok (.bipush 10, 2) := by decide +kernel
theorem dX8_guess_113 : decode cX8_guess 113 = .ok (.iload 4, 2) := by decide +kernel
theorem dX8_guess_115 : decode cX8_guess 115 = .ok (.imul, 1) := by decide +kernel
theorem dX8_guess_116 : decode cX8_guess 116 = .ok (.iload 5, 2) := by decide +kernel
theorem dX8_guess_118 : decode cX8_guess 118 = .ok (.iadd, 1) := by decide +kernel
theorem dX8_guess_119 : decode cX8_guess 119 = .ok (.goto 4, 3) := by decide +kernel
theorem dX8_guess_122 : decode cX8_guess 122 = .ok (.iload_n 3, 1) := by decide +kernel
theorem dX8_guess_123 : decode cX8_guess 123 = .ok (.istore_n 3, 1) := by decide +kernel
theorem dX8_guess_124 : decode cX8_guess 124 = .ok (.iinc 5 1, 3) := by decide +kernel
theorem dX8_guess_127 : decode cX8_guess 127 = .ok (.goto (-46), 3) := by decide +kernel
theorem dX8_guess_130 : decode cX8_guess 130 = .ok (.iinc 4 1, 3) := by decide +kernel
theorem dX8_guess_133 : decode cX8_guess 133 = .ok (.goto (-74), 3) := by decide +kernel
theorem dX8_guess_136 : decode cX8_guess 136 = .ok (.iload_n 1, 1) := by decide +kernel
theorem dX8_guess_137 : decode cX8_guess 137 = .ok (.ifCond .ne 7, 3) := by decide +kernel
theorem dX8_guess_140 : decode cX8_guess 140 = .ok (.iload_n 2, 1) := by decide +kernel
theorem dX8_guess_141 : decode cX8_guess 141 = .ok (.goto 4, 3) := by decide +kernel
theorem dX8_guess_144 : decode cX8_guess 144 = .ok (.iload_n 3, 1) := by decide +kernel
theorem dX8_guess_145 : decode cX8_guess 145 = .ok (.ireturn, 1) := by decide +kernel
theorem dX8_byLaw_0 : decode cX8_byLaw 0 = .ok (.iload_n 1, 1) := by decide +kernel
theorem dX8_byLaw_1 : decode cX8_byLaw 1 = .ok (.iconst (-1), 1) := by decide +kernel
theorem dX8_byLaw_2 : decode cX8_byLaw 2 = .ok (.if_icmp .lt 8, 3) := by decide +kernel
theorem dX8_byLaw_5 : decode cX8_byLaw 5 = .ok (.iload_n 1, 1) := by decide +kernel
theorem dX8_byLaw_6 : decode cX8_byLaw 6 = .ok (.iconst 4, 1) := by decide +kernel
theorem dX8_byLaw_7 : decode cX8_byLaw 7 = .ok (.if_icmp .lt 6, 3) := by decide +kernel
theorem dX8_byLaw_10 : decode cX8_byLaw 10 = .ok (.bipush (-2), 2) := by decide +kernel
theorem dX8_byLaw_12 : decode cX8_byLaw 12 = .ok (.ireturn, 1) := by decide +kernel
theorem dX8_byLaw_13 : decode cX8_byLaw 13 = .ok (.aload_n 0, 1) := by decide +kernel
theorem dX8_byLaw_14 : decode cX8_byLaw 14 = .ok (.getfield 32, 3) := by decide +kernel
theorem dX8_byLaw_17 : decode cX8_byLaw 17 = .ok (.getfield 132, 3) := by decide +kernel
theorem dX8_byLaw_20 : decode cX8_byLaw 20 = .ok (.ifCond .ne 6, 3) := by decide +kernel
theorem dX8_byLaw_23 : decode cX8_byLaw 23 = .ok (.bipush (-3), 2) := by decide +kernel
theorem dX8_byLaw_25 : decode cX8_byLaw 25 = .ok (.ireturn, 1) := by decide +kernel
theorem dX8_byLaw_26 : decode cX8_byLaw 26 = .ok (.iload_n 1, 1) := by decide +kernel
theorem dX8_byLaw_27 : decode cX8_byLaw 27 = .ok (.ifCond .lt 9, 3) := by decide +kernel
theorem dX8_byLaw_30 : decode cX8_byLaw 30 = .ok (.aload_n 0, 1) := by decide +kernel
theorem dX8_byLaw_31 : decode cX8_byLaw 31 = .ok (.iload_n 1, 1) := by decide +kernel
theorem dX8_byLaw_32 : decode cX8_byLaw 32 = .ok (.invokevirtual 287, 3) := by decide +kernel
theorem dX8_byLaw_35 : decode cX8_byLaw 35 = .ok (.ireturn, 1) := by decide +kernel
theorem dX8_byLaw_36 : decode cX8_byLaw 36 = .ok (.iconst 0, 1) := by decide +kernel
theorem dX8_byLaw_37 : decode cX8_byLaw 37 = .ok (.istore_n 2, 1) := by decide +kernel
theorem dX8_byLaw_38 : decode cX8_byLaw 38 = .ok (.aload_n 0, 1) := by decide +kernel
theorem dX8_byLaw_39 : decode cX8_byLaw 39 = .ok (.iconst 0, 1) := by decide +kernel
theorem dX8_byLaw_40 : decode cX8_byLaw 40 = .ok (.invokevirtual 287, 3) := by decide +kernel
theorem dX8_byLaw_43 : decode cX8_byLaw 43 = .ok (.istore_n 3, 1) := by decide +kernel
theorem dX8_byLaw_44 : decode cX8_byLaw 44 = .ok (.iconst 1, 1) := by decide +kernel
theorem dX8_byLaw_45 : decode cX8_byLaw 45 = .ok (.istore 4, 2) := by decide +kernel
theorem dX8_byLaw_47 : decode cX8_byLaw 47 = .ok (.iload 4, 2) := by decide +kernel
theorem dX8_byLaw_49 : decode cX8_byLaw 49 = .ok (.iconst 4, 1) := by decide +kernel
theorem dX8_byLaw_50 : decode cX8_byLaw 50 = .ok (.if_icmp .ge 29, 3) := by decide +kernel
theorem dX8_byLaw_53 : decode cX8_byLaw 53 = .ok (.aload_n 0, 1) := by decide +kernel
theorem dX8_byLaw_54 : decode cX8_byLaw 54 = .ok (.iload 4, 2) := by decide +kernel
theorem dX8_byLaw_56 : decode cX8_byLaw 56 = .ok (.invokevirtual 287, 3) := by decide +kernel
theorem dX8_byLaw_59 : decode cX8_byLaw 59 = .ok (.istore 5, 2) := by decide +kernel
theorem dX8_byLaw_61 : decode cX8_byLaw 61 = .ok (.iload 5, 2) := by decide +kernel
theorem dX8_byLaw_63 : decode cX8_byLaw 63 = .ok (.iload_n 3, 1) := by decide +kernel
theorem dX8_byLaw_64 : decode cX8_byLaw 64 = .ok (.if_icmp .le 9, 3) := by decide +kernel
theorem dX8_byLaw_67 : decode cX8_byLaw 67 = .ok (.iload 5, 2) := by decide +kernel
theorem dX8_byLaw_69 : decode cX8_byLaw 69 = .ok (.istore_n 3, 1) := by decide +kernel
theorem dX8_byLaw_70 : decode cX8_byLaw 70 = .ok (.iload 4, 2) := by decide +kernel
theorem dX8_byLaw_72 : decode cX8_byLaw 72 = .ok (.istore_n 2, 1) := by decide +kernel
theorem dX8_byLaw_73 : decode cX8_byLaw 73 = .ok (.iinc 4 1, 3) := by decide +kernel
theorem dX8_byLaw_76 : decode cX8_byLaw 76 = .ok (.goto (-29), 3) := by decide +kernel
theorem dX8_byLaw_79 : decode cX8_byLaw 79 = .ok (.iload_n 2, 1) := by decide +kernel
theorem dX8_byLaw_80 : decode cX8_byLaw 80 = .ok (.ireturn, 1) := by decide +kernel
theorem dX8_worthUnder_0 : decode cX8_worthUnder 0 = .ok (.aload_n 0, 1) := by decide +kernel
theorem dX8_worthUnder_1 : decode cX8_worthUnder 1 = .ok (.getfield 76, 3) := by decide +kernel
theorem dX8_worthUnder_4 : decode cX8_worthUnder 4 = .ok (.aload_n 0, 1) := by decide +kernel
theorem dX8_worthUnder_5 : decode cX8_worthUnder 5 = .ok (.getfield 54, 3) := by decide +kernel
theorem dX8_worthUnder_8 : decode cX8_worthUnder 8 = .ok (.invokevirtual 231, 3) := by decide +kernel
theorem dX8_worthUnder_11 : decode cX8_worthUnder 11 = .ok (.aload_n 0, 1) := by decide +kernel
theorem dX8_worthUnder_12 : decode cX8_worthUnder 12 = .ok (.getfield 76, 3) := by decide +kernel
theorem dX8_worthUnder_15 : decode cX8_worthUnder 15 = .ok (.iload_n 1, 1) := by decide +kernel
theorem dX8_worthUnder_16 : decode cX8_worthUnder 16 = .ok (.putfield 160, 3) := by decide +kernel
theorem dX8_worthUnder_19 : decode cX8_worthUnder 19 = .ok (.aload_n 0, 1) := by decide +kernel
theorem dX8_worthUnder_20 : decode cX8_worthUnder 20 = .ok (.getfield 79, 3) := by decide +kernel
theorem dX8_worthUnder_23 : decode cX8_worthUnder 23 = .ok (.invokevirtual 290, 3) := by decide +kernel
theorem dX8_worthUnder_26 : decode cX8_worthUnder 26 = .ok (.aload_n 0, 1) := by decide +kernel
theorem dX8_worthUnder_27 : decode cX8_worthUnder 27 = .ok (.getfield 82, 3) := by decide +kernel
theorem dX8_worthUnder_30 : decode cX8_worthUnder 30 = .ok (.invokevirtual 222, 3) := by decide +kernel
theorem dX8_worthUnder_33 : decode cX8_worthUnder 33 = .ok (.aload_n 0, 1) := by decide +kernel
theorem dX8_worthUnder_34 : decode cX8_worthUnder 34 = .ok (.getfield 82, 3) := by decide +kernel
theorem dX8_worthUnder_37 : decode cX8_worthUnder 37 = .ok (.getfield 185, 3) := by decide +kernel
theorem dX8_worthUnder_40 : decode cX8_worthUnder 40 = .ok (.invokestatic 237, 3) := by decide +kernel
theorem dX8_worthUnder_43 : decode cX8_worthUnder 43 = .ok (.ireturn, 1) := by decide +kernel
theorem dX8_share_0 : decode cX8_share 0 = .ok (.aload_n 0, 1) := by decide +kernel
theorem dX8_share_1 : decode cX8_share 1 = .ok (.getfield 32, 3) := by decide +kernel
theorem dX8_share_4 : decode cX8_share 4 = .ok (.iload_n 1, 1) := by decide +kernel
theorem dX8_share_5 : decode cX8_share 5 = .ok (.invokevirtual 135, 3) := by decide +kernel
theorem dX8_share_8 : decode cX8_share 8 = .ok (.ifCond .eq 12, 3) := by decide +kernel
theorem dX8_share_11 : decode cX8_share 11 = .ok (.iload_n 2, 1) := by decide +kernel
theorem dX8_share_12 : decode cX8_share 12 = .ok (.ifCond .eq 12, 3) := by decide +kernel
theorem dX8_share_15 : decode cX8_share 15 = .ok (.iload_n 2, 1) := by decide +kernel
theorem dX8_share_16 : decode cX8_share 16 = .ok (.iconst 1, 1) := by decide +kernel
theorem dX8_share_17 : decode cX8_share 17 = .ok (.if_icmp .eq 7, 3) := by decide +kernel
theorem dX8_share_20 : decode cX8_share 20 = .ok (.ldc2_w 247, 3) := by decide +kernel
theorem dX8_share_23 : decode cX8_share 23 = .ok (.lreturn, 1) := by decide +kernel
theorem dX8_share_24 : decode cX8_share 24 = .ok (.aload_n 0, 1) := by decide +kernel
theorem dX8_share_25 : decode cX8_share 25 = .ok (.invokevirtual 216, 3) := by decide +kernel
theorem dX8_share_28 : decode cX8_share 28 = .ok (.aload_n 0, 1) := by decide +kernel
theorem dX8_share_29 : decode cX8_share 29 = .ok (.getfield 72, 3) := by decide +kernel
theorem dX8_share_32 : decode cX8_share 32 = .ok (.invokevirtual 222, 3) := by decide +kernel
theorem dX8_share_35 : decode cX8_share 35 = .ok (.aload_n 0, 1) := by decide +kernel
theorem dX8_share_36 : decode cX8_share 36 = .ok (.getfield 72, 3) := by decide +kernel
theorem dX8_share_39 : decode cX8_share 39 = .ok (.iload_n 1, 1) := by decide +kernel
theorem dX8_share_40 : decode cX8_share 40 = .ok (.invokevirtual 293, 3) := by decide +kernel
theorem dX8_share_43 : decode cX8_share 43 = .ok (.istore_n 3, 1) := by decide +kernel
theorem dX8_share_44 : decode cX8_share 44 = .ok (.aload_n 0, 1) := by decide +kernel
theorem dX8_share_45 : decode cX8_share 45 = .ok (.getfield 32, 3) := by decide +kernel
theorem dX8_share_48 : decode cX8_share 48 = .ok (.getfield 213, 3) := by decide +kernel
theorem dX8_share_51 : decode cX8_share 51 = .ok (.istore 4, 2) := by decide +kernel
theorem dX8_share_53 : decode cX8_share 53 = .ok (.iload_n 3, 1) := by decide +kernel
theorem dX8_share_54 : decode cX8_share 54 = .ok (.iload 4, 2) := by decide +kernel
theorem dX8_share_56 : decode cX8_share 56 = .ok (.invokestatic 296, 3) := by decide +kernel
theorem dX8_share_59 : decode cX8_share 59 = .ok (.istore 5, 2) := by decide +kernel
theorem dX8_share_61 : decode cX8_share 61 = .ok (.iload 5, 2) := by decide +kernel
theorem dX8_share_63 : decode cX8_share 63 = .ok (.ifCond .gt 7, 3) := by decide +kernel
theorem dX8_share_66 : decode cX8_share 66 = .ok (.ldc2_w 247, 3) := by decide +kernel
theorem dX8_share_69 : decode cX8_share 69 = .ok (.lreturn, 1) := by decide +kernel
theorem dX8_share_70 : decode cX8_share 70 = .ok (.iload_n 2, 1) := by decide +kernel
theorem dX8_share_71 : decode cX8_share 71 = .ok (.ifCond .ne 11, 3) := by decide +kernel
theorem dX8_share_74 : decode cX8_share 74 = .ok (.iload_n 3, 1) := by decide +kernel
theorem dX8_share_75 : decode cX8_share 75 = .ok (.iload 5, 2) := by decide +kernel
theorem dX8_share_77 : decode cX8_share 77 = .ok (.idiv, 1) := by decide +kernel
theorem dX8_share_78 : decode cX8_share 78 = .ok (.i2l, 1) := by decide +kernel
theorem dX8_share_79 : decode cX8_share 79 = .ok (.goto 9, 3) := by decide +kernel
theorem dX8_share_82 : decode cX8_share 82 = .ok (.iload 4, 2) := by decide +kernel
theorem dX8_share_84 : decode cX8_share 84 = .ok (.iload 5, 2) := by decide +kernel
theorem dX8_share_86 : decode cX8_share 86 = .ok (.idiv, 1) := by decide +kernel
theorem dX8_share_87 : decode cX8_share 87 = .ok (.i2l, 1) := by decide +kernel
theorem dX8_share_88 : decode cX8_share 88 = .ok (.lreturn, 1) := by decide +kernel
theorem dX8_commonPart_0 : decode cX8_commonPart 0 = .ok (.iload_n 0, 1) := by decide +kernel
theorem dX8_commonPart_1 : decode cX8_commonPart 1 = .ok (.istore_n 2, 1) := by decide +kernel
theorem dX8_commonPart_2 : decode cX8_commonPart 2 = .ok (.iload_n 1, 1) := by decide +kernel
theorem dX8_commonPart_3 : decode cX8_commonPart 3 = .ok (.istore_n 3, 1) := by decide +kernel
theorem dX8_commonPart_4 : decode cX8_commonPart 4 = .ok (.iconst 0, 1) := by decide +kernel
theorem dX8_commonPart_5 : decode cX8_commonPart 5 = .ok (.istore 4, 2) := by decide +kernel
theorem dX8_commonPart_7 : decode cX8_commonPart 7 = .ok (.iload 4, 2) := by decide +kernel
theorem dX8_commonPart_9 : decode cX8_commonPart 9 = .ok (.bipush 99, 2) := by decide +kernel
theorem dX8_commonPart_11 : decode cX8_commonPart 11 = .ok (.if_icmp .ge 23, 3) := by decide +kernel
theorem dX8_commonPart_14 : decode cX8_commonPart 14 = .ok (.iload_n 3, 1) := by decide +kernel
theorem dX8_commonPart_15 : decode cX8_commonPart 15 = .ok (.ifCond .le 19, 3) := by decide +kernel
theorem dX8_commonPart_18 : decode cX8_commonPart 18 = .ok (.iload_n 2, 1) := by decide +kernel
theorem dX8_commonPart_19 : decode cX8_commonPart 19 = .ok (.iload_n 3, 1) := by decide +kernel
theorem dX8_commonPart_20 : decode cX8_commonPart 20 = .ok (.irem, 1) := by decide +kernel
theorem dX8_commonPart_21 : decode cX8_commonPart 21 = .ok (.istore 5, 2) := by decide +kernel
theorem dX8_commonPart_23 : decode cX8_commonPart 23 = .ok (.iload_n 3, 1) := by decide +kernel
theorem dX8_commonPart_24 : decode cX8_commonPart 24 = .ok (.istore_n 2, 1) := by decide +kernel
theorem dX8_commonPart_25 : decode cX8_commonPart 25 = .ok (.iload 5, 2) := by decide +kernel
theorem dX8_commonPart_27 : decode cX8_commonPart 27 = .ok (.istore_n 3, 1) := by decide +kernel
theorem dX8_commonPart_28 : decode cX8_commonPart 28 = .ok (.iinc 4 1, 3) := by decide +kernel
theorem dX8_commonPart_31 : decode cX8_commonPart 31 = .ok (.goto (-24), 3) := by decide +kernel
theorem dX8_commonPart_34 : decode cX8_commonPart 34 = .ok (.iload_n 2, 1) := by decide +kernel
theorem dX8_commonPart_35 : decode cX8_commonPart 35 = .ok (.ireturn, 1) := by decide +kernel
theorem dX8_sheet_0 : decode cX8_sheet 0 = .ok (.iload_n 1, 1) := by decide +kernel
theorem dX8_sheet_1 : decode cX8_sheet 1 = .ok (.invokestatic 299, 3) := by decide +kernel
theorem dX8_sheet_4 : decode cX8_sheet 4 = .ok (.ifCond .ne 9, 3) := by decide +kernel
theorem dX8_sheet_7 : decode cX8_sheet 7 = .ok (.aload_n 0, 1) := by decide +kernel
theorem dX8_sheet_8 : decode cX8_sheet 8 = .ok (.iconst (-1), 1) := by decide +kernel
theorem dX8_sheet_9 : decode cX8_sheet 9 = .ok (.invokevirtual 109, 3) := by decide +kernel
theorem dX8_sheet_12 : decode cX8_sheet 12 = .ok (.ireturn, 1) := by decide +kernel
theorem dX8_sheet_13 : decode cX8_sheet 13 = .ok (.iload_n 2, 1) := by decide +kernel
theorem dX8_sheet_14 : decode cX8_sheet 14 = .ok (.invokestatic 302, 3) := by decide +kernel
theorem dX8_sheet_17 : decode cX8_sheet 17 = .ok (.ifCond .eq 9, 3) := by decide +kernel
theorem dX8_sheet_20 : decode cX8_sheet 20 = .ok (.iload_n 3, 1) := by decide +kernel
theorem dX8_sheet_21 : decode cX8_sheet 21 = .ok (.bipush 100, 2) := by decide +kernel
theorem dX8_sheet_23 : decode cX8_sheet 23 = .ok (.if_icmp .le 10, 3) := by decide +kernel
theorem dX8_sheet_26 : decode cX8_sheet 26 = .ok (.aload_n 0, 1) := by decide +kernel
theorem dX8_sheet_27 : decode cX8_sheet 27 = .ok (.bipush (-2), 2) := by decide +kernel
theorem dX8_sheet_29 : decode cX8_sheet 29 = .ok (.invokevirtual 109, 3) := by decide +kernel
theorem dX8_sheet_32 : decode cX8_sheet 32 = .ok (.ireturn, 1) := by decide +kernel
theorem dX8_sheet_33 : decode cX8_sheet 33 = .ok (.iload_n 3, 1) := by decide +kernel
theorem dX8_sheet_34 : decode cX8_sheet 34 = .ok (.ifCond .ge 10, 3) := by decide +kernel
theorem dX8_sheet_37 : decode cX8_sheet 37 = .ok (.aload_n 0, 1) := by decide +kernel
theorem dX8_sheet_38 : decode cX8_sheet 38 = .ok (.bipush (-14), 2) := by decide +kernel
theorem dX8_sheet_40 : decode cX8_sheet 40 = .ok (.invokevirtual 109, 3) := by decide +kernel
theorem dX8_sheet_43 : decode cX8_sheet 43 = .ok (.ireturn, 1) := by decide +kernel
theorem dX8_sheet_44 : decode cX8_sheet 44 = .ok (.aload_n 0, 1) := by decide +kernel
theorem dX8_sheet_45 : decode cX8_sheet 45 = .ok (.getfield 25, 3) := by decide +kernel
theorem dX8_sheet_48 : decode cX8_sheet 48 = .ok (.iload_n 1, 1) := by decide +kernel
theorem dX8_sheet_49 : decode cX8_sheet 49 = .ok (.iload_n 2, 1) := by decide +kernel
theorem dX8_sheet_50 : decode cX8_sheet 50 = .ok (.iload_n 3, 1) := by decide +kernel
theorem dX8_sheet_51 : decode cX8_sheet 51 = .ok (.invokevirtual 305, 3) := by decide +kernel
theorem dX8_sheet_54 : decode cX8_sheet 54 = .ok (.aload_n 0, 1) := by decide +kernel
theorem dX8_sheet_55 : decode cX8_sheet 55 = .ok (.iconst 1, 1) := by decide +kernel
theorem dX8_sheet_56 : decode cX8_sheet 56 = .ok (.invokevirtual 109, 3) := by decide +kernel
theorem dX8_sheet_59 : decode cX8_sheet 59 = .ok (.ireturn, 1) := by decide +kernel
theorem dX8_put_0 : decode cX8_put 0 = .ok (.iload_n 1, 1) := by decide +kernel
theorem dX8_put_1 : decode cX8_put 1 = .ok (.invokestatic 299, 3) := by decide +kernel
theorem dX8_put_4 : decode cX8_put 4 = .ok (.ifCond .ne 9, 3) := by decide +kernel
theorem dX8_put_7 : decode cX8_put 7 = .ok (.aload_n 0, 1) := by decide +kernel
theorem dX8_put_8 : decode cX8_put 8 = .ok (.iconst (-1), 1) := by decide +kernel
theorem dX8_put_9 : decode cX8_put 9 = .ok (.invokevirtual 109, 3) := by decide +kernel
theorem dX8_put_12 : decode cX8_put 12 = .ok (.ireturn, 1) := by decide +kernel
theorem dX8_put_13 : decode cX8_put 13 = .ok (.aload_n 0, 1) := by decide +kernel
theorem dX8_put_14 : decode cX8_put 14 = .ok (.getfield 25, 3) := by decide +kernel
theorem dX8_put_17 : decode cX8_put 17 = .ok (.iload_n 1, 1) := by decide +kernel
theorem dX8_put_18 : decode cX8_put 18 = .ok (.invokevirtual 312, 3) := by decide +kernel
theorem dX8_put_21 : decode cX8_put 21 = .ok (.ifCond .eq 10, 3) := by decide +kernel
theorem dX8_put_24 : decode cX8_put 24 = .ok (.aload_n 0, 1) := by decide +kernel
theorem dX8_put_25 : decode cX8_put 25 = .ok (.bipush (-11), 2) := by decide +kernel
theorem dX8_put_27 : decode cX8_put 27 = .ok (.invokevirtual 109, 3) := by decide +kernel
theorem dX8_put_30 : decode cX8_put 30 = .ok (.ireturn, 1) := by decide +kernel
theorem dX8_put_31 : decode cX8_put 31 = .ok (.iload_n 2, 1) := by decide +kernel
theorem dX8_put_32 : decode cX8_put 32 = .ok (.ifCond .lt 15, 3) := by decide +kernel
theorem dX8_put_35 : decode cX8_put 35 = .ok (.iload_n 2, 1) := by decide +kernel
theorem dX8_put_36 : decode cX8_put 36 = .ok (.aload_n 0, 1) := by decide +kernel
theorem dX8_put_37 : decode cX8_put 37 = .ok (.getfield 25, 3) := by decide +kernel
theorem dX8_put_40 : decode cX8_put 40 = .ok (.iload_n 1, 1) := by decide +kernel
theorem dX8_put_41 : decode cX8_put 41 = .ok (.invokevirtual 315, 3) := by decide +kernel
theorem dX8_put_44 : decode cX8_put 44 = .ok (.if_icmp .lt 10, 3) := by decide +kernel
theorem dX8_put_47 : decode cX8_put 47 = .ok (.aload_n 0, 1) := by decide +kernel
theorem dX8_put_48 : decode cX8_put 48 = .ok (.bipush (-13), 2) := by decide +kernel
theorem dX8_put_50 : decode cX8_put 50 = .ok (.invokevirtual 109, 3) := by decide +kernel
theorem dX8_put_53 : decode cX8_put 53 = .ok (.ireturn, 1) := by decide +kernel
theorem dX8_put_54 : decode cX8_put 54 = .ok (.aload_n 0, 1) := by decide +kernel
theorem dX8_put_55 : decode cX8_put 55 = .ok (.getfield 25, 3) := by decide +kernel
theorem dX8_put_58 : decode cX8_put 58 = .ok (.iload_n 1, 1) := by decide +kernel
theorem dX8_put_59 : decode cX8_put 59 = .ok (.iload_n 2, 1) := by decide +kernel
theorem dX8_put_60 : decode cX8_put 60 = .ok (.iload_n 3, 1) := by decide +kernel
theorem dX8_put_61 : decode cX8_put 61 = .ok (.invokevirtual 318, 3) := by decide +kernel
theorem dX8_put_64 : decode cX8_put 64 = .ok (.aload_n 0, 1) := by decide +kernel
theorem dX8_put_65 : decode cX8_put 65 = .ok (.iconst 1, 1) := by decide +kernel
theorem dX8_put_66 : decode cX8_put 66 = .ok (.invokevirtual 109, 3) := by decide +kernel
theorem dX8_put_69 : decode cX8_put 69 = .ok (.ireturn, 1) := by decide +kernel
theorem dX8_many_0 : decode cX8_many 0 = .ok (.iload_n 1, 1) := by decide +kernel
theorem dX8_many_1 : decode cX8_many 1 = .ok (.tableswitch 87 0 5 #[39, 47, 55, 63, 71, 79], 39) := by decide +kernel
theorem dX8_many_40 : decode cX8_many 40 = .ok (.aload_n 0, 1) := by decide +kernel
theorem dX8_many_41 : decode cX8_many 41 = .ok (.getfield 32, 3) := by decide +kernel
theorem dX8_many_44 : decode cX8_many 44 = .ok (.getfield 132, 3) := by decide +kernel
theorem dX8_many_47 : decode cX8_many 47 = .ok (.ireturn, 1) := by decide +kernel
theorem dX8_many_48 : decode cX8_many 48 = .ok (.aload_n 0, 1) := by decide +kernel
theorem dX8_many_49 : decode cX8_many 49 = .ok (.getfield 32, 3) := by decide +kernel
theorem dX8_many_52 : decode cX8_many 52 = .ok (.getfield 213, 3) := by decide +kernel
theorem dX8_many_55 : decode cX8_many 55 = .ok (.ireturn, 1) := by decide +kernel
theorem dX8_many_56 : decode cX8_many 56 = .ok (.aload_n 0, 1) := by decide +kernel
theorem dX8_many_57 : decode cX8_many 57 = .ok (.getfield 54, 3) := by decide +kernel
theorem dX8_many_60 : decode cX8_many 60 = .ok (.getfield 346, 3) := by decide +kernel
theorem dX8_many_63 : decode cX8_many 63 = .ok (.ireturn, 1) := by decide +kernel
theorem dX8_many_64 : decode cX8_many 64 = .ok (.aload_n 0, 1) := by decide +kernel
theorem dX8_many_65 : decode cX8_many 65 = .ok (.getfield 54, 3) := by decide +kernel
theorem dX8_many_68 : decode cX8_many 68 = .ok (.getfield 160, 3) := by decide +kernel
theorem dX8_many_71 : decode cX8_many 71 = .ok (.ireturn, 1) := by decide +kernel
theorem dX8_many_72 : decode cX8_many 72 = .ok (.aload_n 0, 1) := by decide +kernel
theorem dX8_many_73 : decode cX8_many 73 = .ok (.getfield 54, 3) := by decide +kernel
theorem dX8_many_76 : decode cX8_many 76 = .ok (.invokevirtual 189, 3) := by decide +kernel
theorem dX8_many_79 : decode cX8_many 79 = .ok (.ireturn, 1) := by decide +kernel
theorem dX8_many_80 : decode cX8_many 80 = .ok (.aload_n 0, 1) := by decide +kernel
theorem dX8_many_81 : decode cX8_many 81 = .ok (.getfield 88, 3) := by decide +kernel
theorem dX8_many_84 : decode cX8_many 84 = .ok (.getfield 274, 3) := by decide +kernel
theorem dX8_many_87 : decode cX8_many 87 = .ok (.ireturn, 1) := by decide +kernel
theorem dX8_many_88 : decode cX8_many 88 = .ok (.bipush (-2), 2) := by decide +kernel
theorem dX8_many_90 : decode cX8_many 90 = .ok (.ireturn, 1) := by decide +kernel
theorem dX8_told_0 : decode cX8_told 0 = .ok (.iload_n 1, 1) := by decide +kernel
theorem dX8_told_1 : decode cX8_told 1 = .ok (.bipush (-11), 2) := by decide +kernel
theorem dX8_told_3 : decode cX8_told 3 = .ok (.if_icmp .gt 13, 3) := by decide +kernel
theorem dX8_told_6 : decode cX8_told 6 = .ok (.iload_n 1, 1) := by decide +kernel
theorem dX8_told_7 : decode cX8_told 7 = .ok (.bipush (-14), 2) := by decide +kernel
theorem dX8_told_9 : decode cX8_told 9 = .ok (.if_icmp .lt 7, 3) := by decide +kernel
theorem dX8_told_12 : decode cX8_told 12 = .ok (.iconst 1, 1) := by decide +kernel
theorem dX8_told_13 : decode cX8_told 13 = .ok (.goto 4, 3) := by decide +kernel
theorem dX8_told_16 : decode cX8_told 16 = .ok (.iconst 0, 1) := by decide +kernel
theorem dX8_told_17 : decode cX8_told 17 = .ok (.istore_n 2, 1) := by decide +kernel
theorem dX8_told_18 : decode cX8_told 18 = .ok (.aload_n 0, 1) := by decide +kernel
theorem dX8_told_19 : decode cX8_told 19 = .ok (.iload_n 2, 1) := by decide +kernel
theorem dX8_told_20 : decode cX8_told 20 = .ok (.ifCond .eq 10, 3) := by decide +kernel
theorem dX8_told_23 : decode cX8_told 23 = .ok (.bipush (-10), 2) := by decide +kernel
theorem dX8_told_25 : decode cX8_told 25 = .ok (.iload_n 1, 1) := by decide +kernel
theorem dX8_told_26 : decode cX8_told 26 = .ok (.isub, 1) := by decide +kernel
theorem dX8_told_27 : decode cX8_told 27 = .ok (.goto 4, 3) := by decide +kernel
theorem dX8_told_30 : decode cX8_told 30 = .ok (.iconst 0, 1) := by decide +kernel
theorem dX8_told_31 : decode cX8_told 31 = .ok (.putfield 19, 3) := by decide +kernel
theorem dX8_told_34 : decode cX8_told 34 = .ok (.iload_n 1, 1) := by decide +kernel
theorem dX8_told_35 : decode cX8_told 35 = .ok (.ireturn, 1) := by decide +kernel
theorem dL_cell_0 : decode cL_cell 0 = .ok (.iload_n 1, 1) := by decide +kernel
theorem dL_cell_1 : decode cL_cell 1 = .ok (.aload_n 0, 1) := by decide +kernel
theorem dL_cell_2 : decode cL_cell 2 = .ok (.arraylength, 1) := by decide +kernel
theorem dL_cell_3 : decode cL_cell 3 = .ok (.if_icmp .ge 9, 3) := by decide +kernel
theorem dL_cell_6 : decode cL_cell 6 = .ok (.aload_n 0, 1) := by decide +kernel
theorem dL_cell_7 : decode cL_cell 7 = .ok (.iload_n 1, 1) := by decide +kernel
theorem dL_cell_8 : decode cL_cell 8 = .ok (.iaload, 1) := by decide +kernel
theorem dL_cell_9 : decode cL_cell 9 = .ok (.goto 11, 3) := by decide +kernel
theorem dL_cell_12 : decode cL_cell 12 = .ok (.ldc 7, 2) := by decide +kernel
theorem dL_cell_14 : decode cL_cell 14 = .ok (.iload_n 1, 1) := by decide +kernel
theorem dL_cell_15 : decode cL_cell 15 = .ok (.imul, 1) := by decide +kernel
theorem dL_cell_16 : decode cL_cell 16 = .ok (.sipush 977, 3) := by decide +kernel
theorem dL_cell_19 : decode cL_cell 19 = .ok (.iadd, 1) := by decide +kernel
theorem dL_cell_20 : decode cL_cell 20 = .ok (.ireturn, 1) := by decide +kernel
theorem dL_low_0 : decode cL_low 0 = .ok (.iload_n 0, 1) := by decide +kernel
theorem dL_low_1 : decode cL_low 1 = .ok (.ldc 8, 2) := by decide +kernel
theorem dL_low_3 : decode cL_low 3 = .ok (.iand, 1) := by decide +kernel
theorem dL_low_4 : decode cL_low 4 = .ok (.iload_n 1, 1) := by decide +kernel
theorem dL_low_5 : decode cL_low 5 = .ok (.irem, 1) := by decide +kernel
theorem dL_low_6 : decode cL_low 6 = .ok (.ireturn, 1) := by decide +kernel
theorem dL_lay_0 : decode cL_lay 0 = .ok (.aload_n 3, 1) := by decide +kernel
theorem dL_lay_1 : decode cL_lay 1 = .ok (.iload 4, 2) := by decide +kernel
theorem dL_lay_3 : decode cL_lay 3 = .ok (.invokestatic 9, 3) := by decide +kernel
theorem dL_lay_6 : decode cL_lay 6 = .ok (.istore 7, 2) := by decide +kernel
theorem dL_lay_8 : decode cL_lay 8 = .ok (.aload_n 1, 1) := by decide +kernel
theorem dL_lay_9 : decode cL_lay 9 = .ok (.iconst 0, 1) := by decide +kernel
theorem dL_lay_10 : decode cL_lay 10 = .ok (.iconst 2, 1) := by decide +kernel
theorem dL_lay_11 : decode cL_lay 11 = .ok (.iload 7, 2) := by decide +kernel
theorem dL_lay_13 : decode cL_lay 13 = .ok (.iload 5, 2) := by decide +kernel
theorem dL_lay_15 : decode cL_lay 15 = .ok (.iconst 1, 1) := by decide +kernel
theorem dL_lay_16 : decode cL_lay 16 = .ok (.isub, 1) := by decide +kernel
theorem dL_lay_17 : decode cL_lay 17 = .ok (.invokestatic 15, 3) := by decide +kernel
theorem dL_lay_20 : decode cL_lay 20 = .ok (.iadd, 1) := by decide +kernel
theorem dL_lay_21 : decode cL_lay 21 = .ok (.iastore, 1) := by decide +kernel
theorem dL_lay_22 : decode cL_lay 22 = .ok (.aload_n 1, 1) := by decide +kernel
theorem dL_lay_23 : decode cL_lay 23 = .ok (.iconst 1, 1) := by decide +kernel
theorem dL_lay_24 : decode cL_lay 24 = .ok (.iconst 1, 1) := by decide +kernel
theorem dL_lay_25 : decode cL_lay 25 = .ok (.iload 7, 2) := by decide +kernel
theorem dL_lay_27 : decode cL_lay 27 = .ok (.iconst 3, 1) := by decide +kernel
theorem dL_lay_28 : decode cL_lay 28 = .ok (.ishr, 1) := by decide +kernel
theorem dL_lay_29 : decode cL_lay 29 = .ok (.bipush 99, 2) := by decide +kernel
theorem dL_lay_31 : decode cL_lay 31 = .ok (.invokestatic 15, 3) := by decide +kernel
theorem dL_lay_34 : decode cL_lay 34 = .ok (.iadd, 1) := by decide +kernel
theorem dL_lay_35 : decode cL_lay 35 = .ok (.iastore, 1) := by decide +kernel
theorem dL_lay_36 : decode cL_lay 36 = .ok (.aload_n 1, 1) := by decide +kernel
theorem dL_lay_37 : decode cL_lay 37 = .ok (.iconst 2, 1) := by decide +kernel
theorem dL_lay_38 : decode cL_lay 38 = .ok (.iload 7, 2) := by decide +kernel
theorem dL_lay_40 : decode cL_lay 40 = .ok (.bipush 10, 2) := by decide +kernel
theorem dL_lay_42 : decode cL_lay 42 = .ok (.ishr, 1) := by decide +kernel
theorem dL_lay_43 : decode cL_lay 43 = .ok (.bipush 10, 2) := by decide +kernel
theorem dL_lay_45 : decode cL_lay 45 = .ok (.invokestatic 15, 3) := by decide +kernel
theorem dL_lay_48 : decode cL_lay 48 = .ok (.iastore, 1) := by decide +kernel
theorem dL_lay_49 : decode cL_lay 49 = .ok (.aload_n 1, 1) := by decide +kernel
theorem dL_lay_50 : decode cL_lay 50 = .ok (.iconst 3, 1) := by decide +kernel
theorem dL_lay_51 : decode cL_lay 51 = .ok (.iconst 0, 1) := by decide +kernel
theorem dL_lay_52 : decode cL_lay 52 = .ok (.iastore, 1) := by decide +kernel
theorem dL_lay_53 : decode cL_lay 53 = .ok (.aload_n 0, 1) := by decide +kernel
theorem dL_lay_54 : decode cL_lay 54 = .ok (.iconst 0, 1) := by decide +kernel
theorem dL_lay_55 : decode cL_lay 55 = .ok (.iconst 0, 1) := by decide +kernel
theorem dL_lay_56 : decode cL_lay 56 = .ok (.bipush 106, 2) := by decide +kernel
theorem dL_lay_58 : decode cL_lay 58 = .ok (.invokevirtual 19, 3) := by decide +kernel
theorem dL_lay_61 : decode cL_lay 61 = .ok (.iconst 1, 1) := by decide +kernel
theorem dL_lay_62 : decode cL_lay 62 = .ok (.if_icmp .ne 85, 3) := by decide +kernel
theorem dL_lay_65 : decode cL_lay 65 = .ok (.aload_n 0, 1) := by decide +kernel
theorem dL_lay_66 : decode cL_lay 66 = .ok (.iconst 0, 1) := by decide +kernel
theorem dL_lay_67 : decode cL_lay 67 = .ok (.iconst 1, 1) := by decide +kernel
theorem dL_lay_68 : decode cL_lay 68 = .ok (.bipush 48, 2) := by decide +kernel
theorem dL_lay_70 : decode cL_lay 70 = .ok (.aload_n 1, 1) := by decide +kernel
theorem dL_lay_71 : decode cL_lay 71 = .ok (.iconst 1, 1) := by decide +kernel
theorem dL_lay_72 : decode cL_lay 72 = .ok (.iaload, 1) := by decide +kernel
theorem dL_lay_73 : decode cL_lay 73 = .ok (.bipush 10, 2) := by decide +kernel
theorem dL_lay_75 : decode cL_lay 75 = .ok (.idiv, 1) := by decide +kernel
theorem dL_lay_76 : decode cL_lay 76 = .ok (.iadd, 1) := by decide +kernel
theorem dL_lay_77 : decode cL_lay 77 = .ok (.invokevirtual 19, 3) := by decide +kernel
theorem dL_lay_80 : decode cL_lay 80 = .ok (.iconst 1, 1) := by decide +kernel
theorem dL_lay_81 : decode cL_lay 81 = .ok (.if_icmp .ne 66, 3) := by decide +kernel
theorem dL_lay_84 : decode cL_lay 84 = .ok (.aload_n 0, 1) := by decide +kernel
theorem dL_lay_85 : decode cL_lay 85 = .ok (.iconst 0, 1) := by decide +kernel
theorem dL_lay_86 : decode cL_lay 86 = .ok (.iconst 2, 1) := by decide +kernel
theorem dL_lay_87 : decode cL_lay 87 = .ok (.bipush 48, 2) := by decide +kernel
theorem dL_lay_89 : decode cL_lay 89 = .ok (.aload_n 1, 1) := by decide +kernel
theorem dL_lay_90 : decode cL_lay 90 = .ok (.iconst 1, 1) := by decide +kernel
theorem dL_lay_91 : decode cL_lay 91 = .ok (.iaload, 1) := by decide +kernel
theorem dL_lay_92 : decode cL_lay 92 = .ok (.bipush 10, 2) := by decide +kernel
theorem dL_lay_94 : decode cL_lay 94 = .ok (.irem, 1) := by decide +kernel
theorem dL_lay_95 : decode cL_lay 95 = .ok (.iadd, 1) := by decide +kernel
theorem dL_lay_96 : decode cL_lay 96 = .ok (.invokevirtual 19, 3) := by decide +kernel
theorem dL_lay_99 : decode cL_lay 99 = .ok (.iconst 1, 1) := by decide +kernel
theorem dL_lay_100 : decode cL_lay 100 = .ok (.if_icmp .ne 47, 3) := by decide +kernel
theorem dL_lay_103 : decode cL_lay 103 = .ok (.aload_n 0, 1) := by decide +kernel
theorem dL_lay_104 : decode cL_lay 104 = .ok (.iconst 0, 1) := by decide +kernel
theorem dL_lay_105 : decode cL_lay 105 = .ok (.iconst 3, 1) := by decide +kernel
theorem dL_lay_106 : decode cL_lay 106 = .ok (.bipush 59, 2) := by decide +kernel
theorem dL_lay_108 : decode cL_lay 108 = .ok (.invokevirtual 19, 3) := by decide +kernel
theorem dL_lay_111 : decode cL_lay 111 = .ok (.iconst 1, 1) := by decide +kernel
theorem dL_lay_112 : decode cL_lay 112 = .ok (.if_icmp .ne 35, 3) := by decide +kernel
theorem dL_lay_115 : decode cL_lay 115 = .ok (.aload_n 0, 1) := by decide +kernel
theorem dL_lay_116 : decode cL_lay 116 = .ok (.iconst 0, 1) := by decide +kernel
theorem dL_lay_117 : decode cL_lay 117 = .ok (.iconst 4, 1) := by decide +kernel
theorem dL_lay_118 : decode cL_lay 118 = .ok (.bipush 108, 2) := by decide +kernel
theorem dL_lay_120 : decode cL_lay 120 = .ok (.invokevirtual 19, 3) := by decide +kernel
theorem dL_lay_123 : decode cL_lay 123 = .ok (.iconst 1, 1) := by decide +kernel
theorem dL_lay_124 : decode cL_lay 124 = .ok (.if_icmp .ne 23, 3) := by decide +kernel
theorem dL_lay_127 : decode cL_lay 127 = .ok (.aload_n 0, 1) := by decide +kernel
theorem dL_lay_128 : decode cL_lay 128 = .ok (.iconst 0, 1) := by decide +kernel
theorem dL_lay_129 : decode cL_lay 129 = .ok (.iconst 5, 1) := by decide +kernel
theorem dL_lay_130 : decode cL_lay 130 = .ok (.bipush 48, 2) := by decide +kernel
theorem dL_lay_132 : decode cL_lay 132 = .ok (.aload_n 1, 1) := by decide +kernel
theorem dL_lay_133 : decode cL_lay 133 = .ok (.iconst 2, 1) := by decide +kernel
theorem dL_lay_134 : decode cL_lay 134 = .ok (.iaload, 1) := by decide +kernel
theorem dL_lay_135 : decode cL_lay 135 = .ok (.iadd, 1) := by decide +kernel
theorem dL_lay_136 : decode cL_lay 136 = .ok (.invokevirtual 19, 3) := by decide +kernel
theorem dL_lay_139 : decode cL_lay 139 = .ok (.iconst 1, 1) := by decide +kernel
theorem dL_lay_140 : decode cL_lay 140 = .ok (.if_icmp .ne 7, 3) := by decide +kernel
theorem dL_lay_143 : decode cL_lay 143 = .ok (.iconst 1, 1) := by decide +kernel
theorem dL_lay_144 : decode cL_lay 144 = .ok (.goto 4, 3) := by decide +kernel
theorem dL_lay_147 : decode cL_lay 147 = .ok (.iconst 0, 1) := by decide +kernel
theorem dL_lay_148 : decode cL_lay 148 = .ok (.istore 8, 2) := by decide +kernel
theorem dL_lay_150 : decode cL_lay 150 = .ok (.bipush 6, 2) := by decide +kernel
theorem dL_lay_152 : decode cL_lay 152 = .ok (.istore 9, 2) := by decide +kernel
theorem dL_lay_154 : decode cL_lay 154 = .ok (.iconst 0, 1) := by decide +kernel
theorem dL_lay_155 : decode cL_lay 155 = .ok (.istore 10, 2) := by decide +kernel
theorem dL_lay_157 : decode cL_lay 157 = .ok (.iload 10, 2) := by decide +kernel
theorem dL_lay_159 : decode cL_lay 159 = .ok (.aload_n 1, 1) := by decide +kernel
theorem dL_lay_160 : decode cL_lay 160 = .ok (.iconst 0, 1) := by decide +kernel
theorem dL_lay_161 : decode cL_lay 161 = .ok (.iaload, 1) := by decide +kernel
theorem dL_lay_162 : decode cL_lay 162 = .ok (.if_icmp .ge 358, 3) := by decide +kernel
theorem dL_lay_165 : decode cL_lay 165 = .ok (.aload_n 3, 1) := by decide +kernel
theorem dL_lay_166 : decode cL_lay 166 = .ok (.iload 4, 2) := by decide +kernel
theorem dL_lay_168 : decode cL_lay 168 = .ok (.iconst 1, 1) := by decide +kernel
theorem dL_lay_169 : decode cL_lay 169 = .ok (.iadd, 1) := by decide +kernel
theorem dL_lay_170 : decode cL_lay 170 = .ok (.iload 10, 2) := by decide +kernel
theorem dL_lay_172 : decode cL_lay 172 = .ok (.iadd, 1) := by decide +kernel
theorem dL_lay_173 : decode cL_lay 173 = .ok (.invokestatic 9, 3) := by decide +kernel
theorem dL_lay_176 : decode cL_lay 176 = .ok (.istore 11, 2) := by decide +kernel
theorem dL_lay_178 : decode cL_lay 178 = .ok (.aload_n 1, 1) := by decide +kernel
theorem dL_lay_179 : decode cL_lay 179 = .ok (.iconst 4, 1) := by decide +kernel
theorem dL_lay_180 : decode cL_lay 180 = .ok (.iload 10, 2) := by decide +kernel
theorem dL_lay_182 : decode cL_lay 182 = .ok (.iadd, 1) := by decide +kernel
theorem dL_lay_183 : decode cL_lay 183 = .ok (.iload 11, 2) := by decide +kernel
theorem dL_lay_185 : decode cL_lay 185 = .ok (.bipush 7, 2) := by decide +kernel
theorem dL_lay_187 : decode cL_lay 187 = .ok (.iand, 1) := by decide +kernel
theorem dL_lay_188 : decode cL_lay 188 = .ok (.bipush 7, 2) := by decide +kernel
theorem dL_lay_190 : decode cL_lay 190 = .ok (.if_icmp .ne 7, 3) := by decide +kernel
theorem dL_lay_193 : decode cL_lay 193 = .ok (.iconst 2, 1) := by decide +kernel
theorem dL_lay_194 : decode cL_lay 194 = .ok (.goto 7, 3) := by decide +kernel
theorem dL_lay_197 : decode cL_lay 197 = .ok (.iload 11, 2) := by decide +kernel
theorem dL_lay_199 : decode cL_lay 199 = .ok (.iconst 1, 1) := by decide +kernel
theorem dL_lay_200 : decode cL_lay 200 = .ok (.iand, 1) := by decide +kernel
theorem dL_lay_201 : decode cL_lay 201 = .ok (.iastore, 1) := by decide +kernel
theorem dL_lay_202 : decode cL_lay 202 = .ok (.aload_n 1, 1) := by decide +kernel
theorem dL_lay_203 : decode cL_lay 203 = .ok (.bipush 9, 2) := by decide +kernel
theorem dL_lay_205 : decode cL_lay 205 = .ok (.iload 10, 2) := by decide +kernel
theorem dL_lay_207 : decode cL_lay 207 = .ok (.iadd, 1) := by decide +kernel
theorem dL_lay_208 : decode cL_lay 208 = .ok (.iconst 1, 1) := by decide +kernel
theorem dL_lay_209 : decode cL_lay 209 = .ok (.iload 11, 2) := by decide +kernel
theorem dL_lay_211 : decode cL_lay 211 = .ok (.iconst 3, 1) := by decide +kernel
theorem dL_lay_212 : decode cL_lay 212 = .ok (.ishr, 1) := by decide +kernel
theorem dL_lay_213 : decode cL_lay 213 = .ok (.iconst 3, 1) := by decide +kernel
theorem dL_lay_214 : decode cL_lay 214 = .ok (.invokestatic 15, 3) := by decide +kernel
theorem dL_lay_217 : decode cL_lay 217 = .ok (.iadd, 1) := by decide +kernel
theorem dL_lay_218 : decode cL_lay 218 = .ok (.iastore, 1) := by decide +kernel
theorem dL_lay_219 : decode cL_lay 219 = .ok (.aload_n 1, 1) := by decide +kernel
theorem dL_lay_220 : decode cL_lay 220 = .ok (.bipush 14, 2) := by decide +kernel
theorem dL_lay_222 : decode cL_lay 222 = .ok (.iload 10, 2) := by decide +kernel
theorem dL_lay_224 : decode cL_lay 224 = .ok (.iadd, 1) := by decide +kernel
theorem dL_lay_225 : decode cL_lay 225 = .ok (.iload 10, 2) := by decide +kernel
theorem dL_lay_227 : decode cL_lay 227 = .ok (.iastore, 1) := by decide +kernel
theorem dL_lay_228 : decode cL_lay 228 = .ok (.iload 8, 2) := by decide +kernel
theorem dL_lay_230 : decode cL_lay 230 = .ok (.ifCond .eq 64, 3) := by decide +kernel
theorem dL_lay_233 : decode cL_lay 233 = .ok (.aload_n 0, 1) := by decide +kernel
theorem dL_lay_234 : decode cL_lay 234 = .ok (.iconst 0, 1) := by decide +kernel
theorem dL_lay_235 : decode cL_lay 235 = .ok (.iload 9, 2) := by decide +kernel
theorem dL_lay_237 : decode cL_lay 237 = .ok (.bipush 59, 2) := by decide +kernel
theorem dL_lay_239 : decode cL_lay 239 = .ok (.invokevirtual 19, 3) := by decide +kernel
theorem dL_lay_242 : decode cL_lay 242 = .ok (.iconst 1, 1) := by decide +kernel
theorem dL_lay_243 : decode cL_lay 243 = .ok (.if_icmp .ne 51, 3) := by decide +kernel
theorem dL_lay_246 : decode cL_lay 246 = .ok (.aload_n 0, 1) := by decide +kernel
theorem dL_lay_247 : decode cL_lay 247 = .ok (.iconst 0, 1) := by decide +kernel
theorem dL_lay_248 : decode cL_lay 248 = .ok (.iload 9, 2) := by decide +kernel
theorem dL_lay_250 : decode cL_lay 250 = .ok (.iconst 1, 1) := by decide +kernel
theorem dL_lay_251 : decode cL_lay 251 = .ok (.iadd, 1) := by decide +kernel
theorem dL_lay_252 : decode cL_lay 252 = .ok (.aload_n 1, 1) := by decide +kernel
theorem dL_lay_253 : decode cL_lay 253 = .ok (.iconst 4, 1) := by decide +kernel
theorem dL_lay_254 : decode cL_lay 254 = .ok (.iload 10, 2) := by decide +kernel
theorem dL_lay_256 : decode cL_lay 256 = .ok (.iadd, 1) := by decide +kernel
theorem dL_lay_257 : decode cL_lay 257 = .ok (.iaload, 1) := by decide +kernel
theorem dL_lay_258 : decode cL_lay 258 = .ok (.ifCond .ne 8, 3) := by decide +kernel
theorem dL_lay_261 : decode cL_lay 261 = .ok (.bipush 112, 2) := by decide +kernel
theorem dL_lay_263 : decode cL_lay 263 = .ok (.goto 20, 3) := by decide +kernel
theorem dL_lay_266 : decode cL_lay 266 = .ok (.aload_n 1, 1) := by decide +kernel
theorem dL_lay_267 : decode cL_lay 267 = .ok (.iconst 4, 1) := by decide +kernel
theorem dL_lay_268 : decode cL_lay 268 = .ok (.iload 10, 2) := by decide +kernel
theorem dL_lay_270 : decode cL_lay 270 = .ok (.iadd, 1) := by decide +kernel
theorem dL_lay_271 : decode cL_lay 271 = .ok (.iaload, 1) := by decide +kernel
theorem dL_lay_272 : decode cL_lay 272 = .ok (.iconst 1, 1) := by decide +kernel
theorem dL_lay_273 : decode cL_lay 273 = .ok (.if_icmp .ne 8, 3) := by decide +kernel
theorem dL_lay_276 : decode cL_lay 276 = .ok (.bipush 116, 2) := by decide +kernel
theorem dL_lay_278 : decode cL_lay 278 = .ok (.goto 5, 3) := by decide +kernel
theorem dL_lay_281 : decode cL_lay 281 = .ok (.bipush 111, 2) := by decide +kernel
theorem dL_lay_283 : decode cL_lay 283 = .ok (.invokevirtual 19, 3) := by decide +kernel
theorem dL_lay_286 : decode cL_lay 286 = .ok (.iconst 1, 1) := by decide +kernel
theorem dL_lay_287 : decode cL_lay 287 = .ok (.if_icmp .ne 7, 3) := by decide +kernel
theorem dL_lay_290 : decode cL_lay 290 = .ok (.iconst 1, 1) := by decide +kernel
theorem dL_lay_291 : decode cL_lay 291 = .ok (.goto 4, 3) := by decide +kernel
theorem dL_lay_294 : decode cL_lay 294 = .ok (.iconst 0, 1) := by decide +kernel
theorem dL_lay_295 : decode cL_lay 295 = .ok (.istore 8, 2) := by decide +kernel
theorem dL_lay_297 : decode cL_lay 297 = .ok (.iinc 9 2, 3) := by decide +kernel
theorem dL_lay_300 : decode cL_lay 300 = .ok (.iconst 0, 1) := by decide +kernel
theorem dL_lay_301 : decode cL_lay 301 = .ok (.istore 12, 2) := by decide +kernel
theorem dL_lay_303 : decode cL_lay 303 = .ok (.iload 12, 2) := by decide +kernel
theorem dL_lay_305 : decode cL_lay 305 = .ok (.aload_n 1, 1) := by decide +kernel
theorem dL_lay_306 : decode cL_lay 306 = .ok (.bipush 9, 2) := by decide +kernel
theorem dL_lay_308 : decode cL_lay 308 = .ok (.iload 10, 2) := by decide +kernel
theorem dL_lay_310 : decode cL_lay 310 = .ok (.iadd, 1) := by decide +kernel
theorem dL_lay_311 : decode cL_lay 311 = .ok (.iaload, 1) := by decide +kernel
theorem dL_lay_312 : decode cL_lay 312 = .ok (.if_icmp .ge 202, 3) := by decide +kernel
theorem dL_lay_315 : decode cL_lay 315 = .ok (.bipush 9, 2) := by decide +kernel
theorem dL_lay_317 : decode cL_lay 317 = .ok (.iload 10, 2) := by decide +kernel
theorem dL_lay_319 : decode cL_lay 319 = .ok (.imul, 1) := by decide +kernel
theorem dL_lay_320 : decode cL_lay 320 = .ok (.iconst 3, 1) := by decide +kernel
theorem dL_lay_321 : decode cL_lay 321 = .ok (.iload 12, 2) := by decide +kernel
theorem dL_lay_323 : decode cL_lay 323 = .ok (.imul, 1) := by decide +kernel
theorem dL_lay_324 : decode cL_lay 324 = .ok (.iadd, 1) := by decide +kernel
theorem dL_lay_325 : decode cL_lay 325 = .ok (.istore 13, 2) := by decide +kernel
theorem dL_lay_327 : decode cL_lay 327 = .ok (.aload_n 3, 1) := by decide +kernel
theorem dL_lay_328 : decode cL_lay 328 = .ok (.iload 4, 2) := by decide +kernel
theorem dL_lay_330 : decode cL_lay 330 = .ok (.bipush 6, 2) := by decide +kernel
theorem dL_lay_332 : decode cL_lay 332 = .ok (.iadd, 1) := by decide +kernel
theorem dL_lay_333 : decode cL_lay 333 = .ok (.iload 10, 2) := by decide +kernel
theorem dL_lay_335 : decode cL_lay 335 = .ok (.iadd, 1) := by decide +kernel
theorem dL_lay_336 : decode cL_lay 336 = .ok (.invokestatic 9, 3) := by decide +kernel
theorem dL_lay_339 : decode cL_lay 339 = .ok (.bipush 9, 2) := by decide +kernel
theorem dL_lay_341 : decode cL_lay 341 = .ok (.iload 12, 2) := by decide +kernel
theorem dL_lay_343 : decode cL_lay 343 = .ok (.imul, 1) := by decide +kernel
theorem dL_lay_344 : decode cL_lay 344 = .ok (.ishr, 1) := by decide +kernel
theorem dL_lay_345 : decode cL_lay 345 = .ok (.istore 14, 2) := by decide +kernel
theorem dL_lay_347 : decode cL_lay 347 = .ok (.aload_n 2, 1) := by decide +kernel
theorem dL_lay_348 : decode cL_lay 348 = .ok (.iload 13, 2) := by decide +kernel
theorem dL_lay_350 : decode cL_lay 350 = .ok (.iconst 1, 1) := by decide +kernel
theorem dL_lay_351 : decode cL_lay 351 = .ok (.iload 14, 2) := by decide +kernel
theorem dL_lay_353 : decode cL_lay 353 = .ok (.iload 6, 2) := by decide +kernel
theorem dL_lay_355 : decode cL_lay 355 = .ok (.invokestatic 15, 3) := by decide +kernel
theorem dL_lay_358 : decode cL_lay 358 = .ok (.iadd, 1) := by decide +kernel
theorem dL_lay_359 : decode cL_lay 359 = .ok (.iastore, 1) := by decide +kernel
theorem dL_lay_360 : decode cL_lay 360 = .ok (.aload_n 2, 1) := by decide +kernel
theorem dL_lay_361 : decode cL_lay 361 = .ok (.iload 13, 2) := by decide +kernel
theorem dL_lay_363 : decode cL_lay 363 = .ok (.iconst 1, 1) := by decide +kernel
theorem dL_lay_364 : decode cL_lay 364 = .ok (.iadd, 1) := by decide +kernel
theorem dL_lay_365 : decode cL_lay 365 = .ok (.iload 14, 2) := by decide +kernel
theorem dL_lay_367 : decode cL_lay 367 = .ok (.iconst 3, 1) := by decide +kernel
theorem dL_lay_368 : decode cL_lay 368 = .ok (.ishr, 1) := by decide +kernel
theorem dL_lay_369 : decode cL_lay 369 = .ok (.bipush 10, 2) := by decide +kernel
theorem dL_lay_371 : decode cL_lay 371 = .ok (.invokestatic 15, 3) := by decide +kernel
theorem dL_lay_374 : decode cL_lay 374 = .ok (.iastore, 1) := by decide +kernel
theorem dL_lay_375 : decode cL_lay 375 = .ok (.aload_n 2, 1) := by decide +kernel
theorem dL_lay_376 : decode cL_lay 376 = .ok (.iload 13, 2) := by decide +kernel
theorem dL_lay_378 : decode cL_lay 378 = .ok (.iconst 2, 1) := by decide +kernel
theorem dL_lay_379 : decode cL_lay 379 = .ok (.iadd, 1) := by decide +kernel
theorem dL_lay_380 : decode cL_lay 380 = .ok (.iload 14, 2) := by decide +kernel
theorem dL_lay_382 : decode cL_lay 382 = .ok (.iconst 5, 1) := by decide +kernel
theorem dL_lay_383 : decode cL_lay 383 = .ok (.ishr, 1) := by decide +kernel
theorem dL_lay_384 : decode cL_lay 384 = .ok (.bipush 10, 2) := by decide +kernel
theorem dL_lay_386 : decode cL_lay 386 = .ok (.invokestatic 15, 3) := by decide +kernel
theorem dL_lay_389 : decode cL_lay 389 = .ok (.iastore, 1) := by decide +kernel
theorem dL_lay_390 : decode cL_lay 390 = .ok (.iload 8, 2) := by decide +kernel
theorem dL_lay_392 : decode cL_lay 392 = .ok (.ifCond .eq 110, 3) := by decide +kernel
theorem dL_lay_395 : decode cL_lay 395 = .ok (.aload_n 0, 1) := by decide +kernel
theorem dL_lay_396 : decode cL_lay 396 = .ok (.iconst 0, 1) := by decide +kernel
theorem dL_lay_397 : decode cL_lay 397 = .ok (.iload 9, 2) := by decide +kernel
theorem dL_lay_399 : decode cL_lay 399 = .ok (.bipush 119, 2) := by decide +kernel
theorem dL_lay_401 : decode cL_lay 401 = .ok (.invokevirtual 19, 3) := by decide +kernel
theorem dL_lay_404 : decode cL_lay 404 = .ok (.iconst 1, 1) := by decide +kernel
theorem dL_lay_405 : decode cL_lay 405 = .ok (.if_icmp .ne 97, 3) := by decide +kernel
theorem dL_lay_408 : decode cL_lay 408 = .ok (.aload_n 0, 1) := by decide +kernel
theorem dL_lay_409 : decode cL_lay 409 = .ok (.iconst 0, 1) := by decide +kernel
theorem dL_lay_410 : decode cL_lay 410 = .ok (.iload 9, 2) := by decide +kernel
theorem dL_lay_412 : decode cL_lay 412 = .ok (.iconst 1, 1) := by decide +kernel
theorem dL_lay_413 : decode cL_lay 413 = .ok (.iadd, 1) := by decide +kernel
theorem dL_lay_414 : decode cL_lay 414 = .ok (.bipush 48, 2) := by decide +kernel
theorem dL_lay_416 : decode cL_lay 416 = .ok (.aload_n 2, 1) := by decide +kernel
theorem dL_lay_417 : decode cL_lay 417 = .ok (.iload 13, 2) := by decide +kernel
theorem dL_lay_419 : decode cL_lay 419 = .ok (.iaload, 1) := by decide +kernel
theorem dL_lay_420 : decode cL_lay 420 = .ok (.bipush 10, 2) := by decide +kernel
theorem dL_lay_422 : decode cL_lay 422 = .ok (.idiv, 1) := by decide +kernel
theorem dL_lay_423 : decode cL_lay 423 = .ok (.iadd, 1) := by decide +kernel
theorem dL_lay_424 : decode cL_lay 424 = .ok (.invokevirtual 19, 3) := by decide +kernel
theorem dL_lay_427 : decode cL_lay 427 = .ok (.iconst 1, 1) := by decide +kernel
theorem dL_lay_428 : decode cL_lay 428 = .ok (.if_icmp .ne 74, 3) := by decide +kernel
theorem dL_lay_431 : decode cL_lay 431 = .ok (.aload_n 0, 1) := by decide +kernel
theorem dL_lay_432 : decode cL_lay 432 = .ok (.iconst 0, 1) := by decide +kernel
theorem dL_lay_433 : decode cL_lay 433 = .ok (.iload 9, 2) := by decide +kernel
theorem dL_lay_435 : decode cL_lay 435 = .ok (.iconst 2, 1) := by decide +kernel
theorem dL_lay_436 : decode cL_lay 436 = .ok (.iadd, 1) := by decide +kernel
theorem dL_lay_437 : decode cL_lay 437 = .ok (.bipush 48, 2) := by decide +kernel
theorem dL_lay_439 : decode cL_lay 439 = .ok (.aload_n 2, 1) := by decide +kernel
theorem dL_lay_440 : decode cL_lay 440 = .ok (.iload 13, 2) := by decide +kernel
theorem dL_lay_442 : decode cL_lay 442 = .ok (.iaload, 1) := by decide +kernel
theorem dL_lay_443 : decode cL_lay 443 = .ok (.bipush 10, 2) := by decide +kernel
theorem dL_lay_445 : decode cL_lay 445 = .ok (.irem, 1) := by decide +kernel
theorem dL_lay_446 : decode cL_lay 446 = .ok (.iadd, 1) := by decide +kernel
theorem dL_lay_447 : decode cL_lay 447 = .ok (.invokevirtual 19, 3) := by decide +kernel
theorem dL_lay_450 : decode cL_lay 450 = .ok (.iconst 1, 1) := by decide +kernel
theorem dL_lay_451 : decode cL_lay 451 = .ok (.if_icmp .ne 51, 3) := by decide +kernel
theorem dL_lay_454 : decode cL_lay 454 = .ok (.aload_n 0, 1) := by decide +kernel
theorem dL_lay_455 : decode cL_lay 455 = .ok (.iconst 0, 1) := by decide +kernel
theorem dL_lay_456 : decode cL_lay 456 = .ok (.iload 9, 2) := by decide +kernel
theorem dL_lay_458 : decode cL_lay 458 = .ok (.iconst 3, 1) := by decide +kernel
theorem dL_lay_459 : decode cL_lay 459 = .ok (.iadd, 1) := by decide +kernel
theorem dL_lay_460 : decode cL_lay 460 = .ok (.bipush 48, 2) := by decide +kernel
theorem dL_lay_462 : decode cL_lay 462 = .ok (.aload_n 2, 1) := by decide +kernel
theorem dL_lay_463 : decode cL_lay 463 = .ok (.iload 13, 2) := by decide +kernel
theorem dL_lay_465 : decode cL_lay 465 = .ok (.iconst 1, 1) := by decide +kernel
theorem dL_lay_466 : decode cL_lay 466 = .ok (.iadd, 1) := by decide +kernel
theorem dL_lay_467 : decode cL_lay 467 = .ok (.iaload, 1) := by decide +kernel
theorem dL_lay_468 : decode cL_lay 468 = .ok (.iadd, 1) := by decide +kernel
theorem dL_lay_469 : decode cL_lay 469 = .ok (.invokevirtual 19, 3) := by decide +kernel
theorem dL_lay_472 : decode cL_lay 472 = .ok (.iconst 1, 1) := by decide +kernel
theorem dL_lay_473 : decode cL_lay 473 = .ok (.if_icmp .ne 29, 3) := by decide +kernel
theorem dL_lay_476 : decode cL_lay 476 = .ok (.aload_n 0, 1) := by decide +kernel
theorem dL_lay_477 : decode cL_lay 477 = .ok (.iconst 0, 1) := by decide +kernel
theorem dL_lay_478 : decode cL_lay 478 = .ok (.iload 9, 2) := by decide +kernel
theorem dL_lay_480 : decode cL_lay 480 = .ok (.iconst 4, 1) := by decide +kernel
theorem dL_lay_481 : decode cL_lay 481 = .ok (.iadd, 1) := by decide +kernel
theorem dL_lay_482 : decode cL_lay 482 = .ok (.bipush 48, 2) := by decide +kernel
theorem dL_lay_484 : decode cL_lay 484 = .ok (.aload_n 2, 1) := by decide +kernel
theorem dL_lay_485 : decode cL_lay 485 = .ok (.iload 13, 2) := by decide +kernel
theorem dL_lay_487 : decode cL_lay 487 = .ok (.iconst 2, 1) := by decide +kernel
theorem dL_lay_488 : decode cL_lay 488 = .ok (.iadd, 1) := by decide +kernel
theorem dL_lay_489 : decode cL_lay 489 = .ok (.iaload, 1) := by decide +kernel
theorem dL_lay_490 : decode cL_lay 490 = .ok (.iadd, 1) := by decide +kernel
theorem dL_lay_491 : decode cL_lay 491 = .ok (.invokevirtual 19, 3) := by decide +kernel
theorem dL_lay_494 : decode cL_lay 494 = .ok (.iconst 1, 1) := by decide +kernel
theorem dL_lay_495 : decode cL_lay 495 = .ok (.if_icmp .ne 7, 3) := by decide +kernel
theorem dL_lay_498 : decode cL_lay 498 = .ok (.iconst 1, 1) := by decide +kernel
theorem dL_lay_499 : decode cL_lay 499 = .ok (.goto 4, 3) := by decide +kernel
theorem dL_lay_502 : decode cL_lay 502 = .ok (.iconst 0, 1) := by decide +kernel
theorem dL_lay_503 : decode cL_lay 503 = .ok (.istore 8, 2) := by decide +kernel
theorem dL_lay_505 : decode cL_lay 505 = .ok (.iinc 9 5, 3) := by decide +kernel
theorem dL_lay_508 : decode cL_lay 508 = .ok (.iinc 12 1, 3) := by decide +kernel
theorem dL_lay_511 : decode cL_lay 511 = .ok (.goto (-208), 3) := by decide +kernel
theorem dL_lay_514 : decode cL_lay 514 = .ok (.iinc 10 1, 3) := by decide +kernel
theorem dL_lay_517 : decode cL_lay 517 = .ok (.goto (-360), 3) := by decide +kernel
theorem dL_lay_520 : decode cL_lay 520 = .ok (.aload_n 1, 1) := by decide +kernel
theorem dL_lay_521 : decode cL_lay 521 = .ok (.bipush 40, 2) := by decide +kernel
theorem dL_lay_523 : decode cL_lay 523 = .ok (.iload 9, 2) := by decide +kernel
theorem dL_lay_525 : decode cL_lay 525 = .ok (.iastore, 1) := by decide +kernel
theorem dL_lay_526 : decode cL_lay 526 = .ok (.iload 8, 2) := by decide +kernel
theorem dL_lay_528 : decode cL_lay 528 = .ok (.ifCond .eq 15, 3) := by decide +kernel
theorem dL_lay_531 : decode cL_lay 531 = .ok (.aload_n 0, 1) := by decide +kernel
theorem dL_lay_532 : decode cL_lay 532 = .ok (.iconst 0, 1) := by decide +kernel
theorem dL_lay_533 : decode cL_lay 533 = .ok (.iconst 0, 1) := by decide +kernel
theorem dL_lay_534 : decode cL_lay 534 = .ok (.iconst 0, 1) := by decide +kernel
theorem dL_lay_535 : decode cL_lay 535 = .ok (.iload 9, 2) := by decide +kernel
theorem dL_lay_537 : decode cL_lay 537 = .ok (.invokevirtual 25, 3) := by decide +kernel
theorem dL_lay_540 : decode cL_lay 540 = .ok (.goto 6, 3) := by decide +kernel
theorem dL_lay_543 : decode cL_lay 543 = .ok (.sipush (-999), 3) := by decide +kernel
theorem dL_lay_546 : decode cL_lay 546 = .ok (.ireturn, 1) := by decide +kernel
theorem dL_turns_0 : decode cL_turns 0 = .ok (.aload_n 0, 1) := by decide +kernel
theorem dL_turns_1 : decode cL_turns 1 = .ok (.iconst 3, 1) := by decide +kernel
theorem dL_turns_2 : decode cL_turns 2 = .ok (.iaload, 1) := by decide +kernel
theorem dL_turns_3 : decode cL_turns 3 = .ok (.iconst 3, 1) := by decide +kernel
theorem dL_turns_4 : decode cL_turns 4 = .ok (.if_icmp .ne 11, 3) := by decide +kernel
theorem dL_turns_7 : decode cL_turns 7 = .ok (.aload_n 0, 1) := by decide +kernel
theorem dL_turns_8 : decode cL_turns 8 = .ok (.iconst 0, 1) := by decide +kernel
theorem dL_turns_9 : decode cL_turns 9 = .ok (.iaload, 1) := by decide +kernel
theorem dL_turns_10 : decode cL_turns 10 = .ok (.iconst 1, 1) := by decide +kernel
theorem dL_turns_11 : decode cL_turns 11 = .ok (.iadd, 1) := by decide +kernel
theorem dL_turns_12 : decode cL_turns 12 = .ok (.goto 6, 3) := by decide +kernel
theorem dL_turns_15 : decode cL_turns 15 = .ok (.aload_n 0, 1) := by decide +kernel
theorem dL_turns_16 : decode cL_turns 16 = .ok (.iconst 0, 1) := by decide +kernel
theorem dL_turns_17 : decode cL_turns 17 = .ok (.iaload, 1) := by decide +kernel
theorem dL_turns_18 : decode cL_turns 18 = .ok (.ireturn, 1) := by decide +kernel
theorem dL_who_0 : decode cL_who 0 = .ok (.aload_n 0, 1) := by decide +kernel
theorem dL_who_1 : decode cL_who 1 = .ok (.bipush 14, 2) := by decide +kernel
theorem dL_who_3 : decode cL_who 3 = .ok (.iload_n 1, 1) := by decide +kernel
theorem dL_who_4 : decode cL_who 4 = .ok (.aload_n 0, 1) := by decide +kernel
theorem dL_who_5 : decode cL_who 5 = .ok (.iconst 0, 1) := by decide +kernel
theorem dL_who_6 : decode cL_who 6 = .ok (.iaload, 1) := by decide +kernel
theorem dL_who_7 : decode cL_who 7 = .ok (.if_icmp .ne 7, 3) := by decide +kernel
theorem dL_who_10 : decode cL_who 10 = .ok (.iconst 0, 1) := by decide +kernel
theorem dL_who_11 : decode cL_who 11 = .ok (.goto 4, 3) := by decide +kernel
theorem dL_who_14 : decode cL_who 14 = .ok (.iload_n 1, 1) := by decide +kernel
theorem dL_who_15 : decode cL_who 15 = .ok (.iadd, 1) := by decide +kernel
theorem dL_who_16 : decode cL_who 16 = .ok (.iaload, 1) := by decide +kernel
theorem dL_who_17 : decode cL_who 17 = .ok (.ireturn, 1) := by decide +kernel
theorem dL_ahead_0 : decode cL_ahead 0 = .ok (.aload_n 0, 1) := by decide +kernel
theorem dL_ahead_1 : decode cL_ahead 1 = .ok (.iconst 3, 1) := by decide +kernel
theorem dL_ahead_2 : decode cL_ahead 2 = .ok (.iaload, 1) := by decide +kernel
theorem dL_ahead_3 : decode cL_ahead 3 = .ok (.iconst 1, 1) := by decide +kernel
theorem dL_ahead_4 : decode cL_ahead 4 = .ok (.if_icmp .ne 19, 3) := by decide +kernel
theorem dL_ahead_7 : decode cL_ahead 7 = .ok (.aload_n 0, 1) := by decide +kernel
theorem dL_ahead_8 : decode cL_ahead 8 = .ok (.iconst 1, 1) := by decide +kernel
theorem dL_ahead_9 : decode cL_ahead 9 = .ok (.iaload, 1) := by decide +kernel
theorem dL_ahead_10 : decode cL_ahead 10 = .ok (.aload_n 0, 1) := by decide +kernel
theorem dL_ahead_11 : decode cL_ahead 11 = .ok (.iconst 1, 1) := by decide +kernel
theorem dL_ahead_12 : decode cL_ahead 12 = .ok (.iaload, 1) := by decide +kernel
theorem dL_ahead_13 : decode cL_ahead 13 = .ok (.aload_n 0, 1) := by decide +kernel
theorem dL_ahead_14 : decode cL_ahead 14 = .ok (.iconst 0, 1) := by decide +kernel
theorem dL_ahead_15 : decode cL_ahead 15 = .ok (.iaload, 1) := by decide +kernel
theorem dL_ahead_16 : decode cL_ahead 16 = .ok (.irem, 1) := by decide +kernel
theorem dL_ahead_17 : decode cL_ahead 17 = .ok (.isub, 1) := by decide +kernel
theorem dL_ahead_18 : decode cL_ahead 18 = .ok (.aload_n 0, 1) := by decide +kernel
theorem dL_ahead_19 : decode cL_ahead 19 = .ok (.iconst 0, 1) := by decide +kernel
theorem dL_ahead_20 : decode cL_ahead 20 = .ok (.iaload, 1) := by decide +kernel
theorem dL_ahead_21 : decode cL_ahead 21 = .ok (.idiv, 1) := by decide +kernel
theorem dL_ahead_22 : decode cL_ahead 22 = .ok (.ireturn, 1) := by decide +kernel
theorem dL_ahead_23 : decode cL_ahead 23 = .ok (.iload_n 1, 1) := by decide +kernel
theorem dL_ahead_24 : decode cL_ahead 24 = .ok (.iload_n 2, 1) := by decide +kernel
theorem dL_ahead_25 : decode cL_ahead 25 = .ok (.if_icmp .le 9, 3) := by decide +kernel
theorem dL_ahead_28 : decode cL_ahead 28 = .ok (.iload_n 1, 1) := by decide +kernel
theorem dL_ahead_29 : decode cL_ahead 29 = .ok (.iload_n 2, 1) := by decide +kernel
theorem dL_ahead_30 : decode cL_ahead 30 = .ok (.isub, 1) := by decide +kernel
theorem dL_ahead_31 : decode cL_ahead 31 = .ok (.goto 4, 3) := by decide +kernel
theorem dL_ahead_34 : decode cL_ahead 34 = .ok (.iconst 0, 1) := by decide +kernel
theorem dL_ahead_35 : decode cL_ahead 35 = .ok (.istore_n 3, 1) := by decide +kernel
theorem dL_ahead_36 : decode cL_ahead 36 = .ok (.aload_n 0, 1) := by decide +kernel
theorem dL_ahead_37 : decode cL_ahead 37 = .ok (.iconst 3, 1) := by decide +kernel
theorem dL_ahead_38 : decode cL_ahead 38 = .ok (.iaload, 1) := by decide +kernel
theorem dL_ahead_39 : decode cL_ahead 39 = .ok (.iconst 2, 1) := by decide +kernel
theorem dL_ahead_40 : decode cL_ahead 40 = .ok (.if_icmp .ne 9, 3) := by decide +kernel
theorem dL_ahead_43 : decode cL_ahead 43 = .ok (.iload_n 3, 1) := by decide +kernel
theorem dL_ahead_44 : decode cL_ahead 44 = .ok (.iconst 2, 1) := by decide +kernel
theorem dL_ahead_45 : decode cL_ahead 45 = .ok (.idiv, 1) := by decide +kernel
theorem dL_ahead_46 : decode cL_ahead 46 = .ok (.goto 4, 3) := by decide +kernel
theorem dL_ahead_49 : decode cL_ahead 49 = .ok (.iload_n 3, 1) := by decide +kernel
theorem dL_ahead_50 : decode cL_ahead 50 = .ok (.ireturn, 1) := by decide +kernel
theorem dL_day_0 : decode cL_day 0 = .ok (.bipush 16, 2) := by decide +kernel
theorem dL_day_2 : decode cL_day 2 = .ok (.newarray .int, 2) := by decide +kernel
theorem dL_day_4 : decode cL_day 4 = .ok (.astore 5, 2) := by decide +kernel
theorem dL_day_6 : decode cL_day 6 = .ok (.aload 5, 2) := by decide +kernel
theorem dL_day_8 : decode cL_day 8 = .ok (.iconst 1, 1) := by decide +kernel
theorem dL_day_9 : decode cL_day 9 = .ok (.bipush (-9), 2) := by decide +kernel
theorem dL_day_11 : decode cL_day 11 = .ok (.iastore, 1) := by decide +kernel
theorem dL_day_12 : decode cL_day 12 = .ok (.aload_n 0, 1) := by decide +kernel
theorem dL_day_13 : decode cL_day 13 = .ok (.iconst 3, 1) := by decide +kernel
theorem dL_day_14 : decode cL_day 14 = .ok (.iaload, 1) := by decide +kernel
theorem dL_day_15 : decode cL_day 15 = .ok (.iconst 1, 1) := by decide +kernel
theorem dL_day_16 : decode cL_day 16 = .ok (.if_icmp .ne 12, 3) := by decide +kernel
theorem dL_day_19 : decode cL_day 19 = .ok (.aload_n 0, 1) := by decide +kernel
theorem dL_day_20 : decode cL_day 20 = .ok (.iconst 0, 1) := by decide +kernel
theorem dL_day_21 : decode cL_day 21 = .ok (.iconst 0, 1) := by decide +kernel
theorem dL_day_22 : decode cL_day 22 = .ok (.invokestatic 29, 3) := by decide +kernel
theorem dL_day_25 : decode cL_day 25 = .ok (.goto 6, 3) := by decide +kernel
theorem dL_day_28 : decode cL_day 28 = .ok (.aload_n 0, 1) := by decide +kernel
theorem dL_day_29 : decode cL_day 29 = .ok (.iconst 1, 1) := by decide +kernel
theorem dL_day_30 : decode cL_day 30 = .ok (.iaload, 1) := by decide +kernel
theorem dL_day_31 : decode cL_day 31 = .ok (.istore 6, 2) := by decide +kernel
theorem dL_day_33 : decode cL_day 33 = .ok (.iconst 0, 1) := by decide +kernel
theorem dL_day_34 : decode cL_day 34 = .ok (.istore 7, 2) := by decide +kernel
theorem dL_day_36 : decode cL_day 36 = .ok (.iload 7, 2) := by decide +kernel
theorem dL_day_38 : decode cL_day 38 = .ok (.iload_n 3, 1) := by decide +kernel
theorem dL_day_39 : decode cL_day 39 = .ok (.if_icmp .ge 166, 3) := by decide +kernel
theorem dL_day_42 : decode cL_day 42 = .ok (.aload 5, 2) := by decide +kernel
theorem dL_day_44 : decode cL_day 44 = .ok (.bipush 8, 2) := by decide +kernel
theorem dL_day_46 : decode cL_day 46 = .ok (.iload 7, 2) := by decide +kernel
theorem dL_day_48 : decode cL_day 48 = .ok (.iadd, 1) := by decide +kernel
theorem dL_day_49 : decode cL_day 49 = .ok (.iload 6, 2) := by decide +kernel
theorem dL_day_51 : decode cL_day 51 = .ok (.iastore, 1) := by decide +kernel
theorem dL_day_52 : decode cL_day 52 = .ok (.aload_n 0, 1) := by decide +kernel
theorem dL_day_53 : decode cL_day 53 = .ok (.iload 7, 2) := by decide +kernel
theorem dL_day_55 : decode cL_day 55 = .ok (.invokestatic 33, 3) := by decide +kernel
theorem dL_day_58 : decode cL_day 58 = .ok (.istore 8, 2) := by decide +kernel
theorem dL_day_60 : decode cL_day 60 = .ok (.bipush 9, 2) := by decide +kernel
theorem dL_day_62 : decode cL_day 62 = .ok (.iload 8, 2) := by decide +kernel
theorem dL_day_64 : decode cL_day 64 = .ok (.imul, 1) := by decide +kernel
theorem dL_day_65 : decode cL_day 65 = .ok (.iconst 3, 1) := by decide +kernel
theorem dL_day_66 : decode cL_day 66 = .ok (.aload_n 2, 1) := by decide +kernel
theorem dL_day_67 : decode cL_day 67 = .ok (.iload 7, 2) := by decide +kernel
theorem dL_day_69 : decode cL_day 69 = .ok (.iaload, 1) := by decide +kernel
theorem dL_day_70 : decode cL_day 70 = .ok (.imul, 1) := by decide +kernel
theorem dL_day_71 : decode cL_day 71 = .ok (.iadd, 1) := by decide +kernel
theorem dL_day_72 : decode cL_day 72 = .ok (.istore 9, 2) := by decide +kernel
theorem dL_day_74 : decode cL_day 74 = .ok (.aload_n 2, 1) := by decide +kernel
theorem dL_day_75 : decode cL_day 75 = .ok (.iload 7, 2) := by decide +kernel
theorem dL_day_77 : decode cL_day 77 = .ok (.iaload, 1) := by decide +kernel
theorem dL_day_78 : decode cL_day 78 = .ok (.ifCond .lt 38, 3) := by decide +kernel
theorem dL_day_81 : decode cL_day 81 = .ok (.aload_n 1, 1) := by decide +kernel
theorem dL_day_82 : decode cL_day 82 = .ok (.iload 9, 2) := by decide +kernel
theorem dL_day_84 : decode cL_day 84 = .ok (.iaload, 1) := by decide +kernel
theorem dL_day_85 : decode cL_day 85 = .ok (.iload 6, 2) := by decide +kernel
theorem dL_day_87 : decode cL_day 87 = .ok (.if_icmp .le 29, 3) := by decide +kernel
theorem dL_day_90 : decode cL_day 90 = .ok (.aload 5, 2) := by decide +kernel
theorem dL_day_92 : decode cL_day 92 = .ok (.iconst 1, 1) := by decide +kernel
theorem dL_day_93 : decode cL_day 93 = .ok (.aload 5, 2) := by decide +kernel
theorem dL_day_95 : decode cL_day 95 = .ok (.iconst 1, 1) := by decide +kernel
theorem dL_day_96 : decode cL_day 96 = .ok (.iaload, 1) := by decide +kernel
theorem dL_day_97 : decode cL_day 97 = .ok (.ifCond .ge 8, 3) := by decide +kernel
theorem dL_day_100 : decode cL_day 100 = .ok (.iload 7, 2) := by decide +kernel
theorem dL_day_102 : decode cL_day 102 = .ok (.goto 7, 3) := by decide +kernel
theorem dL_day_105 : decode cL_day 105 = .ok (.aload 5, 2) := by decide +kernel
theorem dL_day_107 : decode cL_day 107 = .ok (.iconst 1, 1) := by decide +kernel
theorem dL_day_108 : decode cL_day 108 = .ok (.iaload, 1) := by decide +kernel
theorem dL_day_109 : decode cL_day 109 = .ok (.iastore, 1) := by decide +kernel
theorem dL_day_110 : decode cL_day 110 = .ok (.iconst 0, 1) := by decide +kernel
theorem dL_day_111 : decode cL_day 111 = .ok (.istore 6, 2) := by decide +kernel
theorem dL_day_113 : decode cL_day 113 = .ok (.goto 76, 3) := by decide +kernel
theorem dL_day_116 : decode cL_day 116 = .ok (.aload_n 2, 1) := by decide +kernel
theorem dL_day_117 : decode cL_day 117 = .ok (.iload 7, 2) := by decide +kernel
theorem dL_day_119 : decode cL_day 119 = .ok (.iaload, 1) := by decide +kernel
theorem dL_day_120 : decode cL_day 120 = .ok (.ifCond .lt 69, 3) := by decide +kernel
theorem dL_day_123 : decode cL_day 123 = .ok (.aload 5, 2) := by decide +kernel
theorem dL_day_125 : decode cL_day 125 = .ok (.iconst 0, 1) := by decide +kernel
theorem dL_day_126 : decode cL_day 126 = .ok (.dup2, 1) := by decide +kernel
theorem dL_day_127 : decode cL_day 127 = .ok (.iaload, 1) := by decide +kernel
theorem dL_day_128 : decode cL_day 128 = .ok (.iconst 1, 1) := by decide +kernel
theorem dL_day_129 : decode cL_day 129 = .ok (.iadd, 1) := by decide +kernel
theorem dL_day_130 : decode cL_day 130 = .ok (.iastore, 1) := by decide +kernel
theorem dL_day_131 : decode cL_day 131 = .ok (.iload 6, 2) := by decide +kernel
theorem dL_day_133 : decode cL_day 133 = .ok (.aload_n 1, 1) := by decide +kernel
theorem dL_day_134 : decode cL_day 134 = .ok (.iload 9, 2) := by decide +kernel
theorem dL_day_136 : decode cL_day 136 = .ok (.iaload, 1) := by decide +kernel
theorem dL_day_137 : decode cL_day 137 = .ok (.isub, 1) := by decide +kernel
theorem dL_day_138 : decode cL_day 138 = .ok (.istore 6, 2) := by decide +kernel
theorem dL_day_140 : decode cL_day 140 = .ok (.iconst 0, 1) := by decide +kernel
theorem dL_day_141 : decode cL_day 141 = .ok (.istore 10, 2) := by decide +kernel
theorem dL_day_143 : decode cL_day 143 = .ok (.iload 10, 2) := by decide +kernel
theorem dL_day_145 : decode cL_day 145 = .ok (.aload_n 0, 1) := by decide +kernel
theorem dL_day_146 : decode cL_day 146 = .ok (.iconst 0, 1) := by decide +kernel
theorem dL_day_147 : decode cL_day 147 = .ok (.iaload, 1) := by decide +kernel
theorem dL_day_148 : decode cL_day 148 = .ok (.if_icmp .ge 41, 3) := by decide +kernel
theorem dL_day_151 : decode cL_day 151 = .ok (.aload 5, 2) := by decide +kernel
theorem dL_day_153 : decode cL_day 153 = .ok (.iconst 3, 1) := by decide +kernel
theorem dL_day_154 : decode cL_day 154 = .ok (.iload 10, 2) := by decide +kernel
theorem dL_day_156 : decode cL_day 156 = .ok (.iadd, 1) := by decide +kernel
theorem dL_day_157 : decode cL_day 157 = .ok (.dup2, 1) := by decide +kernel
theorem dL_day_158 : decode cL_day 158 = .ok (.iaload, 1) := by decide +kernel
theorem dL_day_159 : decode cL_day 159 = .ok (.iload 10, 2) := by decide +kernel
theorem dL_day_161 : decode cL_day 161 = .ok (.iload 8, 2) := by decide +kernel
theorem dL_day_163 : decode cL_day 163 = .ok (.if_icmp .ne 12, 3) := by decide +kernel
theorem dL_day_166 : decode cL_day 166 = .ok (.aload_n 1, 1) := by decide +kernel
theorem dL_day_167 : decode cL_day 167 = .ok (.iload 9, 2) := by decide +kernel
theorem dL_day_169 : decode cL_day 169 = .ok (.iconst 1, 1) := by decide +kernel
theorem dL_day_170 : decode cL_day 170 = .ok (.iadd, 1) := by decide +kernel
theorem dL_day_171 : decode cL_day 171 = .ok (.iaload, 1) := by decide +kernel
theorem dL_day_172 : decode cL_day 172 = .ok (.goto 9, 3) := by decide +kernel
theorem dL_day_175 : decode cL_day 175 = .ok (.aload_n 1, 1) := by decide +kernel
theorem dL_day_176 : decode cL_day 176 = .ok (.iload 9, 2) := by decide +kernel
theorem dL_day_178 : decode cL_day 178 = .ok (.iconst 2, 1) := by decide +kernel
theorem dL_day_179 : decode cL_day 179 = .ok (.iadd, 1) := by decide +kernel
theorem dL_day_180 : decode cL_day 180 = .ok (.iaload, 1) := by decide +kernel
theorem dL_day_181 : decode cL_day 181 = .ok (.iadd, 1) := by decide +kernel
theorem dL_day_182 : decode cL_day 182 = .ok (.iastore, 1) := by decide +kernel
theorem dL_day_183 : decode cL_day 183 = .ok (.iinc 10 1, 3) := by decide +kernel
theorem dL_day_186 : decode cL_day 186 = .ok (.goto (-43), 3) := by decide +kernel
theorem dL_day_189 : decode cL_day 189 = .ok (.aload_n 0, 1) := by decide +kernel
theorem dL_day_190 : decode cL_day 190 = .ok (.iload 6, 2) := by decide +kernel
theorem dL_day_192 : decode cL_day 192 = .ok (.iload 4, 2) := by decide +kernel
theorem dL_day_194 : decode cL_day 194 = .ok (.invokestatic 29, 3) := by decide +kernel
theorem dL_day_197 : decode cL_day 197 = .ok (.istore 6, 2) := by decide +kernel
theorem dL_day_199 : decode cL_day 199 = .ok (.iinc 7 1, 3) := by decide +kernel
theorem dL_day_202 : decode cL_day 202 = .ok (.goto (-166), 3) := by decide +kernel
theorem dL_day_205 : decode cL_day 205 = .ok (.aload 5, 2) := by decide +kernel
theorem dL_day_207 : decode cL_day 207 = .ok (.iconst 2, 1) := by decide +kernel
theorem dL_day_208 : decode cL_day 208 = .ok (.iload 6, 2) := by decide +kernel
theorem dL_day_210 : decode cL_day 210 = .ok (.iastore, 1) := by decide +kernel
theorem dL_day_211 : decode cL_day 211 = .ok (.aload 5, 2) := by decide +kernel
theorem dL_day_213 : decode cL_day 213 = .ok (.areturn, 1) := by decide +kernel
theorem dL_read_0 : decode cL_read 0 = .ok (.iconst 0, 1) := by decide +kernel
theorem dL_read_1 : decode cL_read 1 = .ok (.istore 4, 2) := by decide +kernel
theorem dL_read_3 : decode cL_read 3 = .ok (.iload 4, 2) := by decide +kernel
theorem dL_read_5 : decode cL_read 5 = .ok (.aload_n 1, 1) := by decide +kernel
theorem dL_read_6 : decode cL_read 6 = .ok (.iconst 1, 1) := by decide +kernel
theorem dL_read_7 : decode cL_read 7 = .ok (.iaload, 1) := by decide +kernel
theorem dL_read_8 : decode cL_read 8 = .ok (.if_icmp .gt 116, 3) := by decide +kernel
theorem dL_read_11 : decode cL_read 11 = .ok (.iconst 0, 1) := by decide +kernel
theorem dL_read_12 : decode cL_read 12 = .ok (.istore 5, 2) := by decide +kernel
theorem dL_read_14 : decode cL_read 14 = .ok (.iconst 0, 1) := by decide +kernel
theorem dL_read_15 : decode cL_read 15 = .ok (.istore 6, 2) := by decide +kernel
theorem dL_read_17 : decode cL_read 17 = .ok (.iload 6, 2) := by decide +kernel
theorem dL_read_19 : decode cL_read 19 = .ok (.aload_n 1, 1) := by decide +kernel
theorem dL_read_20 : decode cL_read 20 = .ok (.invokestatic 36, 3) := by decide +kernel
theorem dL_read_23 : decode cL_read 23 = .ok (.if_icmp .ge 70, 3) := by decide +kernel
theorem dL_read_26 : decode cL_read 26 = .ok (.aload_n 0, 1) := by decide +kernel
theorem dL_read_27 : decode cL_read 27 = .ok (.iload 6, 2) := by decide +kernel
theorem dL_read_29 : decode cL_read 29 = .ok (.iload 4, 2) := by decide +kernel
theorem dL_read_31 : decode cL_read 31 = .ok (.invokevirtual 40, 3) := by decide +kernel
theorem dL_read_34 : decode cL_read 34 = .ok (.istore 7, 2) := by decide +kernel
theorem dL_read_36 : decode cL_read 36 = .ok (.iload 7, 2) := by decide +kernel
theorem dL_read_38 : decode cL_read 38 = .ok (.bipush (-9), 2) := by decide +kernel
theorem dL_read_40 : decode cL_read 40 = .ok (.if_icmp .eq 26, 3) := by decide +kernel
theorem dL_read_43 : decode cL_read 43 = .ok (.iload 7, 2) := by decide +kernel
theorem dL_read_45 : decode cL_read 45 = .ok (.ifCond .lt 19, 3) := by decide +kernel
theorem dL_read_48 : decode cL_read 48 = .ok (.iload 7, 2) := by decide +kernel
theorem dL_read_50 : decode cL_read 50 = .ok (.aload_n 1, 1) := by decide +kernel
theorem dL_read_51 : decode cL_read 51 = .ok (.bipush 9, 2) := by decide +kernel
theorem dL_read_53 : decode cL_read 53 = .ok (.aload_n 1, 1) := by decide +kernel
theorem dL_read_54 : decode cL_read 54 = .ok (.iload 6, 2) := by decide +kernel
theorem dL_read_56 : decode cL_read 56 = .ok (.invokestatic 33, 3) := by decide +kernel
theorem dL_read_59 : decode cL_read 59 = .ok (.iadd, 1) := by decide +kernel
theorem dL_read_60 : decode cL_read 60 = .ok (.iaload, 1) := by decide +kernel
theorem dL_read_61 : decode cL_read 61 = .ok (.if_icmp .lt 5, 3) := by decide +kernel
theorem dL_read_64 : decode cL_read 64 = .ok (.iconst 0, 1) := by decide +kernel
theorem dL_read_65 : decode cL_read 65 = .ok (.ireturn, 1) := by decide +kernel
theorem dL_read_66 : decode cL_read 66 = .ok (.iload 5, 2) := by decide +kernel
theorem dL_read_68 : decode cL_read 68 = .ok (.iload 7, 2) := by decide +kernel
theorem dL_read_70 : decode cL_read 70 = .ok (.ifCond .ge 7, 3) := by decide +kernel
theorem dL_read_73 : decode cL_read 73 = .ok (.iconst 3, 1) := by decide +kernel
theorem dL_read_74 : decode cL_read 74 = .ok (.goto 5, 3) := by decide +kernel
theorem dL_read_77 : decode cL_read 77 = .ok (.iload 7, 2) := by decide +kernel
theorem dL_read_79 : decode cL_read 79 = .ok (.iconst 2, 1) := by decide +kernel
theorem dL_read_80 : decode cL_read 80 = .ok (.iload 6, 2) := by decide +kernel
theorem dL_read_82 : decode cL_read 82 = .ok (.imul, 1) := by decide +kernel
theorem dL_read_83 : decode cL_read 83 = .ok (.ishl, 1) := by decide +kernel
theorem dL_read_84 : decode cL_read 84 = .ok (.ior, 1) := by decide +kernel
theorem dL_read_85 : decode cL_read 85 = .ok (.istore 5, 2) := by decide +kernel
theorem dL_read_87 : decode cL_read 87 = .ok (.iinc 6 1, 3) := by decide +kernel
theorem dL_read_90 : decode cL_read 90 = .ok (.goto (-73), 3) := by decide +kernel
theorem dL_read_93 : decode cL_read 93 = .ok (.iload 4, 2) := by decide +kernel
theorem dL_read_95 : decode cL_read 95 = .ok (.bipush 64, 2) := by decide +kernel
theorem dL_read_97 : decode cL_read 97 = .ok (.if_icmp .ge 12, 3) := by decide +kernel
theorem dL_read_100 : decode cL_read 100 = .ok (.aload_n 2, 1) := by decide +kernel
theorem dL_read_101 : decode cL_read 101 = .ok (.iload 4, 2) := by decide +kernel
theorem dL_read_103 : decode cL_read 103 = .ok (.iload 5, 2) := by decide +kernel
theorem dL_read_105 : decode cL_read 105 = .ok (.iastore, 1) := by decide +kernel
theorem dL_read_106 : decode cL_read 106 = .ok (.goto 12, 3) := by decide +kernel
theorem dL_read_109 : decode cL_read 109 = .ok (.aload_n 3, 1) := by decide +kernel
theorem dL_read_110 : decode cL_read 110 = .ok (.iload 4, 2) := by decide +kernel
theorem dL_read_112 : decode cL_read 112 = .ok (.bipush 64, 2) := by decide +kernel
theorem dL_read_114 : decode cL_read 114 = .ok (.isub, 1) := by decide +kernel
theorem dL_read_115 : decode cL_read 115 = .ok (.iload 5, 2) := by decide +kernel
theorem dL_read_117 : decode cL_read 117 = .ok (.iastore, 1) := by decide +kernel
theorem dL_read_118 : decode cL_read 118 = .ok (.iinc 4 1, 3) := by decide +kernel
theorem dL_read_121 : decode cL_read 121 = .ok (.goto (-118), 3) := by decide +kernel
theorem dL_read_124 : decode cL_read 124 = .ok (.iconst 1, 1) := by decide +kernel
theorem dL_read_125 : decode cL_read 125 = .ok (.ireturn, 1) := by decide +kernel
theorem dL_said_0 : decode cL_said 0 = .ok (.iload_n 3, 1) := by decide +kernel
theorem dL_said_1 : decode cL_said 1 = .ok (.bipush 64, 2) := by decide +kernel
theorem dL_said_3 : decode cL_said 3 = .ok (.if_icmp .ge 9, 3) := by decide +kernel
theorem dL_said_6 : decode cL_said 6 = .ok (.aload_n 0, 1) := by decide +kernel
theorem dL_said_7 : decode cL_said 7 = .ok (.iload_n 3, 1) := by decide +kernel
theorem dL_said_8 : decode cL_said 8 = .ok (.iaload, 1) := by decide +kernel
theorem dL_said_9 : decode cL_said 9 = .ok (.goto 9, 3) := by decide +kernel
theorem dL_said_12 : decode cL_said 12 = .ok (.aload_n 1, 1) := by decide +kernel
theorem dL_said_13 : decode cL_said 13 = .ok (.iload_n 3, 1) := by decide +kernel
theorem dL_said_14 : decode cL_said 14 = .ok (.bipush 64, 2) := by decide +kernel
theorem dL_said_16 : decode cL_said 16 = .ok (.isub, 1) := by decide +kernel
theorem dL_said_17 : decode cL_said 17 = .ok (.iaload, 1) := by decide +kernel
theorem dL_said_18 : decode cL_said 18 = .ok (.iconst 2, 1) := by decide +kernel
theorem dL_said_19 : decode cL_said 19 = .ok (.iload_n 2, 1) := by decide +kernel
theorem dL_said_20 : decode cL_said 20 = .ok (.imul, 1) := by decide +kernel
theorem dL_said_21 : decode cL_said 21 = .ok (.ishr, 1) := by decide +kernel
theorem dL_said_22 : decode cL_said 22 = .ok (.iconst 3, 1) := by decide +kernel
theorem dL_said_23 : decode cL_said 23 = .ok (.iand, 1) := by decide +kernel
theorem dL_said_24 : decode cL_said 24 = .ok (.istore 4, 2) := by decide +kernel
theorem dL_said_26 : decode cL_said 26 = .ok (.iload 4, 2) := by decide +kernel
theorem dL_said_28 : decode cL_said 28 = .ok (.iconst 3, 1) := by decide +kernel
theorem dL_said_29 : decode cL_said 29 = .ok (.if_icmp .ne 8, 3) := by decide +kernel
theorem dL_said_32 : decode cL_said 32 = .ok (.bipush (-9), 2) := by decide +kernel
theorem dL_said_34 : decode cL_said 34 = .ok (.goto 5, 3) := by decide +kernel
theorem dL_said_37 : decode cL_said 37 = .ok (.iload 4, 2) := by decide +kernel
theorem dL_said_39 : decode cL_said 39 = .ok (.ireturn, 1) := by decide +kernel
theorem dL_from_0 : decode cL_from 0 = .ok (.bipush 20, 2) := by decide +kernel
theorem dL_from_2 : decode cL_from 2 = .ok (.newarray .int, 2) := by decide +kernel
theorem dL_from_4 : decode cL_from 4 = .ok (.astore 7, 2) := by decide +kernel
theorem dL_from_6 : decode cL_from 6 = .ok (.iload 5, 2) := by decide +kernel
theorem dL_from_8 : decode cL_from 8 = .ok (.istore 8, 2) := by decide +kernel
theorem dL_from_10 : decode cL_from 10 = .ok (.iload 4, 2) := by decide +kernel
theorem dL_from_12 : decode cL_from 12 = .ok (.istore 9, 2) := by decide +kernel
theorem dL_from_14 : decode cL_from 14 = .ok (.iload 9, 2) := by decide +kernel
theorem dL_from_16 : decode cL_from 16 = .ok (.aload_n 0, 1) := by decide +kernel
theorem dL_from_17 : decode cL_from 17 = .ok (.invokestatic 36, 3) := by decide +kernel
theorem dL_from_20 : decode cL_from 20 = .ok (.if_icmp .ge 164, 3) := by decide +kernel
theorem dL_from_23 : decode cL_from 23 = .ok (.aload_n 0, 1) := by decide +kernel
theorem dL_from_24 : decode cL_from 24 = .ok (.iload 9, 2) := by decide +kernel
theorem dL_from_26 : decode cL_from 26 = .ok (.invokestatic 33, 3) := by decide +kernel
theorem dL_from_29 : decode cL_from 29 = .ok (.istore 10, 2) := by decide +kernel
theorem dL_from_31 : decode cL_from 31 = .ok (.iload 9, 2) := by decide +kernel
theorem dL_from_33 : decode cL_from 33 = .ok (.iload 4, 2) := by decide +kernel
theorem dL_from_35 : decode cL_from 35 = .ok (.if_icmp .ne 8, 3) := by decide +kernel
theorem dL_from_38 : decode cL_from 38 = .ok (.iload 6, 2) := by decide +kernel
theorem dL_from_40 : decode cL_from 40 = .ok (.goto 12, 3) := by decide +kernel
theorem dL_from_43 : decode cL_from 43 = .ok (.aload_n 2, 1) := by decide +kernel
theorem dL_from_44 : decode cL_from 44 = .ok (.aload_n 3, 1) := by decide +kernel
theorem dL_from_45 : decode cL_from 45 = .ok (.iload 9, 2) := by decide +kernel
theorem dL_from_47 : decode cL_from 47 = .ok (.iload 8, 2) := by decide +kernel
theorem dL_from_49 : decode cL_from 49 = .ok (.invokestatic 43, 3) := by decide +kernel
theorem dL_from_52 : decode cL_from 52 = .ok (.istore 11, 2) := by decide +kernel
theorem dL_from_54 : decode cL_from 54 = .ok (.bipush 9, 2) := by decide +kernel
theorem dL_from_56 : decode cL_from 56 = .ok (.iload 10, 2) := by decide +kernel
theorem dL_from_58 : decode cL_from 58 = .ok (.imul, 1) := by decide +kernel
theorem dL_from_59 : decode cL_from 59 = .ok (.iconst 3, 1) := by decide +kernel
theorem dL_from_60 : decode cL_from 60 = .ok (.iload 11, 2) := by decide +kernel
theorem dL_from_62 : decode cL_from 62 = .ok (.imul, 1) := by decide +kernel
theorem dL_from_63 : decode cL_from 63 = .ok (.iadd, 1) := by decide +kernel
theorem dL_from_64 : decode cL_from 64 = .ok (.istore 12, 2) := by decide +kernel
theorem dL_from_66 : decode cL_from 66 = .ok (.aload 7, 2) := by decide +kernel
theorem dL_from_68 : decode cL_from 68 = .ok (.bipush 6, 2) := by decide +kernel
theorem dL_from_70 : decode cL_from 70 = .ok (.iload 9, 2) := by decide +kernel
theorem dL_from_72 : decode cL_from 72 = .ok (.iadd, 1) := by decide +kernel
theorem dL_from_73 : decode cL_from 73 = .ok (.iload 11, 2) := by decide +kernel
theorem dL_from_75 : decode cL_from 75 = .ok (.iastore, 1) := by decide +kernel
theorem dL_from_76 : decode cL_from 76 = .ok (.aload 7, 2) := by decide +kernel
theorem dL_from_78 : decode cL_from 78 = .ok (.bipush 12, 2) := by decide +kernel
theorem dL_from_80 : decode cL_from 80 = .ok (.iload 9, 2) := by decide +kernel
theorem dL_from_82 : decode cL_from 82 = .ok (.iadd, 1) := by decide +kernel
theorem dL_from_83 : decode cL_from 83 = .ok (.iload 8, 2) := by decide +kernel
theorem dL_from_85 : decode cL_from 85 = .ok (.iastore, 1) := by decide +kernel
theorem dL_from_86 : decode cL_from 86 = .ok (.iload 11, 2) := by decide +kernel
theorem dL_from_88 : decode cL_from 88 = .ok (.ifCond .lt 18, 3) := by decide +kernel
theorem dL_from_91 : decode cL_from 91 = .ok (.aload_n 1, 1) := by decide +kernel
theorem dL_from_92 : decode cL_from 92 = .ok (.iload 12, 2) := by decide +kernel
theorem dL_from_94 : decode cL_from 94 = .ok (.iaload, 1) := by decide +kernel
theorem dL_from_95 : decode cL_from 95 = .ok (.iload 8, 2) := by decide +kernel
theorem dL_from_97 : decode cL_from 97 = .ok (.if_icmp .le 9, 3) := by decide +kernel
theorem dL_from_100 : decode cL_from 100 = .ok (.iconst 0, 1) := by decide +kernel
theorem dL_from_101 : decode cL_from 101 = .ok (.istore 8, 2) := by decide +kernel
theorem dL_from_103 : decode cL_from 103 = .ok (.goto 64, 3) := by decide +kernel
theorem dL_from_106 : decode cL_from 106 = .ok (.iload 11, 2) := by decide +kernel
theorem dL_from_108 : decode cL_from 108 = .ok (.ifCond .lt 59, 3) := by decide +kernel
theorem dL_from_111 : decode cL_from 111 = .ok (.iload 8, 2) := by decide +kernel
theorem dL_from_113 : decode cL_from 113 = .ok (.aload_n 1, 1) := by decide +kernel
theorem dL_from_114 : decode cL_from 114 = .ok (.iload 12, 2) := by decide +kernel
theorem dL_from_116 : decode cL_from 116 = .ok (.iaload, 1) := by decide +kernel
theorem dL_from_117 : decode cL_from 117 = .ok (.isub, 1) := by decide +kernel
theorem dL_from_118 : decode cL_from 118 = .ok (.istore 8, 2) := by decide +kernel
theorem dL_from_120 : decode cL_from 120 = .ok (.iconst 0, 1) := by decide +kernel
theorem dL_from_121 : decode cL_from 121 = .ok (.istore 13, 2) := by decide +kernel
theorem dL_from_123 : decode cL_from 123 = .ok (.iload 13, 2) := by decide +kernel
theorem dL_from_125 : decode cL_from 125 = .ok (.aload_n 0, 1) := by decide +kernel
theorem dL_from_126 : decode cL_from 126 = .ok (.iconst 0, 1) := by decide +kernel
theorem dL_from_127 : decode cL_from 127 = .ok (.iaload, 1) := by decide +kernel
theorem dL_from_128 : decode cL_from 128 = .ok (.if_icmp .ge 39, 3) := by decide +kernel
theorem dL_from_131 : decode cL_from 131 = .ok (.aload 7, 2) := by decide +kernel
theorem dL_from_133 : decode cL_from 133 = .ok (.iload 13, 2) := by decide +kernel
theorem dL_from_135 : decode cL_from 135 = .ok (.dup2, 1) := by decide +kernel
theorem dL_from_136 : decode cL_from 136 = .ok (.iaload, 1) := by decide +kernel
theorem dL_from_137 : decode cL_from 137 = .ok (.iload 13, 2) := by decide +kernel
theorem dL_from_139 : decode cL_from 139 = .ok (.iload 10, 2) := by decide +kernel
theorem dL_from_141 : decode cL_from 141 = .ok (.if_icmp .ne 12, 3) := by decide +kernel
theorem dL_from_144 : decode cL_from 144 = .ok (.aload_n 1, 1) := by decide +kernel
theorem dL_from_145 : decode cL_from 145 = .ok (.iload 12, 2) := by decide +kernel
theorem dL_from_147 : decode cL_from 147 = .ok (.iconst 1, 1) := by decide +kernel
theorem dL_from_148 : decode cL_from 148 = .ok (.iadd, 1) := by decide +kernel
theorem dL_from_149 : decode cL_from 149 = .ok (.iaload, 1) := by decide +kernel
theorem dL_from_150 : decode cL_from 150 = .ok (.goto 9, 3) := by decide +kernel
theorem dL_from_153 : decode cL_from 153 = .ok (.aload_n 1, 1) := by decide +kernel
theorem dL_from_154 : decode cL_from 154 = .ok (.iload 12, 2) := by decide +kernel
theorem dL_from_156 : decode cL_from 156 = .ok (.iconst 2, 1) := by decide +kernel
theorem dL_from_157 : decode cL_from 157 = .ok (.iadd, 1) := by decide +kernel
theorem dL_from_158 : decode cL_from 158 = .ok (.iaload, 1) := by decide +kernel
theorem dL_from_159 : decode cL_from 159 = .ok (.iadd, 1) := by decide +kernel
theorem dL_from_160 : decode cL_from 160 = .ok (.iastore, 1) := by decide +kernel
theorem dL_from_161 : decode cL_from 161 = .ok (.iinc 13 1, 3) := by decide +kernel
theorem dL_from_164 : decode cL_from 164 = .ok (.goto (-41), 3) := by decide +kernel
theorem dL_from_167 : decode cL_from 167 = .ok (.aload_n 0, 1) := by decide +kernel
theorem dL_from_168 : decode cL_from 168 = .ok (.iload 8, 2) := by decide +kernel
theorem dL_from_170 : decode cL_from 170 = .ok (.aload_n 0, 1) := by decide +kernel
theorem dL_from_171 : decode cL_from 171 = .ok (.iconst 2, 1) := by decide +kernel
theorem dL_from_172 : decode cL_from 172 = .ok (.iaload, 1) := by decide +kernel
theorem dL_from_173 : decode cL_from 173 = .ok (.invokestatic 29, 3) := by decide +kernel
theorem dL_from_176 : decode cL_from 176 = .ok (.istore 8, 2) := by decide +kernel
theorem dL_from_178 : decode cL_from 178 = .ok (.iinc 9 1, 3) := by decide +kernel
theorem dL_from_181 : decode cL_from 181 = .ok (.goto (-167), 3) := by decide +kernel
theorem dL_from_184 : decode cL_from 184 = .ok (.aload 7, 2) := by decide +kernel
theorem dL_from_186 : decode cL_from 186 = .ok (.iconst 5, 1) := by decide +kernel
theorem dL_from_187 : decode cL_from 187 = .ok (.iload 8, 2) := by decide +kernel
theorem dL_from_189 : decode cL_from 189 = .ok (.iastore, 1) := by decide +kernel
theorem dL_from_190 : decode cL_from 190 = .ok (.aload 7, 2) := by decide +kernel
theorem dL_from_192 : decode cL_from 192 = .ok (.areturn, 1) := by decide +kernel
theorem dL_start_0 : decode cL_start 0 = .ok (.aload_n 0, 1) := by decide +kernel
theorem dL_start_1 : decode cL_start 1 = .ok (.iconst 3, 1) := by decide +kernel
theorem dL_start_2 : decode cL_start 2 = .ok (.iaload, 1) := by decide +kernel
theorem dL_start_3 : decode cL_start 3 = .ok (.iconst 1, 1) := by decide +kernel
theorem dL_start_4 : decode cL_start 4 = .ok (.if_icmp .ne 12, 3) := by decide +kernel
theorem dL_start_7 : decode cL_start 7 = .ok (.aload_n 0, 1) := by decide +kernel
theorem dL_start_8 : decode cL_start 8 = .ok (.iconst 0, 1) := by decide +kernel
theorem dL_start_9 : decode cL_start 9 = .ok (.iconst 0, 1) := by decide +kernel
theorem dL_start_10 : decode cL_start 10 = .ok (.invokestatic 29, 3) := by decide +kernel
theorem dL_start_13 : decode cL_start 13 = .ok (.goto 6, 3) := by decide +kernel
theorem dL_start_16 : decode cL_start 16 = .ok (.aload_n 0, 1) := by decide +kernel
theorem dL_start_17 : decode cL_start 17 = .ok (.iconst 1, 1) := by decide +kernel
theorem dL_start_18 : decode cL_start 18 = .ok (.iaload, 1) := by decide +kernel
theorem dL_start_19 : decode cL_start 19 = .ok (.ireturn, 1) := by decide +kernel
theorem dL_free_0 : decode cL_free 0 = .ok (.aload_n 0, 1) := by decide +kernel
theorem dL_free_1 : decode cL_free 1 = .ok (.aload_n 1, 1) := by decide +kernel
theorem dL_free_2 : decode cL_free 2 = .ok (.aload_n 2, 1) := by decide +kernel
theorem dL_free_3 : decode cL_free 3 = .ok (.aload_n 3, 1) := by decide +kernel
theorem dL_free_4 : decode cL_free 4 = .ok (.iconst 0, 1) := by decide +kernel
theorem dL_free_5 : decode cL_free 5 = .ok (.aload_n 0, 1) := by decide +kernel
theorem dL_free_6 : decode cL_free 6 = .ok (.invokestatic 47, 3) := by decide +kernel
theorem dL_free_9 : decode cL_free 9 = .ok (.aload_n 2, 1) := by decide +kernel
theorem dL_free_10 : decode cL_free 10 = .ok (.aload_n 3, 1) := by decide +kernel
theorem dL_free_11 : decode cL_free 11 = .ok (.iconst 0, 1) := by decide +kernel
theorem dL_free_12 : decode cL_free 12 = .ok (.aload_n 0, 1) := by decide +kernel
theorem dL_free_13 : decode cL_free 13 = .ok (.invokestatic 47, 3) := by decide +kernel
theorem dL_free_16 : decode cL_free 16 = .ok (.invokestatic 43, 3) := by decide +kernel
theorem dL_free_19 : decode cL_free 19 = .ok (.invokestatic 50, 3) := by decide +kernel
theorem dL_free_22 : decode cL_free 22 = .ok (.areturn, 1) := by decide +kernel
theorem dL_all_0 : decode cL_all 0 = .ok (.iconst 0, 1) := by decide +kernel
theorem dL_all_1 : decode cL_all 1 = .ok (.istore_n 2, 1) := by decide +kernel
theorem dL_all_2 : decode cL_all 2 = .ok (.iconst 0, 1) := by decide +kernel
theorem dL_all_3 : decode cL_all 3 = .ok (.istore_n 3, 1) := by decide +kernel
theorem dL_all_4 : decode cL_all 4 = .ok (.iload_n 3, 1) := by decide +kernel
theorem dL_all_5 : decode cL_all 5 = .ok (.iload_n 1, 1) := by decide +kernel
theorem dL_all_6 : decode cL_all 6 = .ok (.if_icmp .ge 15, 3) := by decide +kernel
theorem dL_all_9 : decode cL_all 9 = .ok (.iload_n 2, 1) := by decide +kernel
theorem dL_all_10 : decode cL_all 10 = .ok (.aload_n 0, 1) := by decide +kernel
theorem dL_all_11 : decode cL_all 11 = .ok (.iload_n 3, 1) := by decide +kernel
theorem dL_all_12 : decode cL_all 12 = .ok (.iaload, 1) := by decide +kernel
theorem dL_all_13 : decode cL_all 13 = .ok (.iadd, 1) := by decide +kernel
theorem dL_all_14 : decode cL_all 14 = .ok (.istore_n 2, 1) := by decide +kernel
theorem dL_all_15 : decode cL_all 15 = .ok (.iinc 3 1, 3) := by decide +kernel
theorem dL_all_18 : decode cL_all 18 = .ok (.goto (-14), 3) := by decide +kernel
theorem dL_all_21 : decode cL_all 21 = .ok (.iload_n 2, 1) := by decide +kernel
theorem dL_all_22 : decode cL_all 22 = .ok (.ireturn, 1) := by decide +kernel
theorem dL_says_0 : decode cL_says 0 = .ok (.iconst 0, 1) := by decide +kernel
theorem dL_says_1 : decode cL_says 1 = .ok (.istore 4, 2) := by decide +kernel
theorem dL_says_3 : decode cL_says 3 = .ok (.iconst 0, 1) := by decide +kernel
theorem dL_says_4 : decode cL_says 4 = .ok (.istore 5, 2) := by decide +kernel
theorem dL_says_6 : decode cL_says 6 = .ok (.iload 5, 2) := by decide +kernel
theorem dL_says_8 : decode cL_says 8 = .ok (.aload_n 0, 1) := by decide +kernel
theorem dL_says_9 : decode cL_says 9 = .ok (.invokestatic 36, 3) := by decide +kernel
theorem dL_says_12 : decode cL_says 12 = .ok (.if_icmp .ge 42, 3) := by decide +kernel
theorem dL_says_15 : decode cL_says 15 = .ok (.iload 4, 2) := by decide +kernel
theorem dL_says_17 : decode cL_says 17 = .ok (.ifCond .ne 24, 3) := by decide +kernel
theorem dL_says_20 : decode cL_says 20 = .ok (.aload_n 0, 1) := by decide +kernel
theorem dL_says_21 : decode cL_says 21 = .ok (.iload 5, 2) := by decide +kernel
theorem dL_says_23 : decode cL_says 23 = .ok (.invokestatic 33, 3) := by decide +kernel
theorem dL_says_26 : decode cL_says 26 = .ok (.iload_n 2, 1) := by decide +kernel
theorem dL_says_27 : decode cL_says 27 = .ok (.if_icmp .ne 18, 3) := by decide +kernel
theorem dL_says_30 : decode cL_says 30 = .ok (.aload_n 1, 1) := by decide +kernel
theorem dL_says_31 : decode cL_says 31 = .ok (.bipush 6, 2) := by decide +kernel
theorem dL_says_33 : decode cL_says 33 = .ok (.iload 5, 2) := by decide +kernel
theorem dL_says_35 : decode cL_says 35 = .ok (.iadd, 1) := by decide +kernel
theorem dL_says_36 : decode cL_says 36 = .ok (.iaload, 1) := by decide +kernel
theorem dL_says_37 : decode cL_says 37 = .ok (.iload_n 3, 1) := by decide +kernel
theorem dL_says_38 : decode cL_says 38 = .ok (.if_icmp .ne 7, 3) := by decide +kernel
theorem dL_says_41 : decode cL_says 41 = .ok (.iconst 1, 1) := by decide +kernel
theorem dL_says_42 : decode cL_says 42 = .ok (.goto 4, 3) := by decide +kernel
theorem dL_says_45 : decode cL_says 45 = .ok (.iconst 0, 1) := by decide +kernel
theorem dL_says_46 : decode cL_says 46 = .ok (.istore 4, 2) := by decide +kernel
theorem dL_says_48 : decode cL_says 48 = .ok (.iinc 5 1, 3) := by decide +kernel
theorem dL_says_51 : decode cL_says 51 = .ok (.goto (-45), 3) := by decide +kernel
theorem dL_says_54 : decode cL_says 54 = .ok (.iload 4, 2) := by decide +kernel
theorem dL_says_56 : decode cL_says 56 = .ok (.ireturn, 1) := by decide +kernel
theorem dL_but_0 : decode cL_but 0 = .ok (.bipush 20, 2) := by decide +kernel
theorem dL_but_2 : decode cL_but 2 = .ok (.newarray .int, 2) := by decide +kernel
theorem dL_but_4 : decode cL_but 4 = .ok (.astore 6, 2) := by decide +kernel
theorem dL_but_6 : decode cL_but 6 = .ok (.aload_n 0, 1) := by decide +kernel
