theorem dX5_openBehind_30 : decode cX5_openBehind 30 = .ok (.getfield 45, 3) := by decide +kernel
theorem dX5_openBehind_33 : decode cX5_openBehind 33 = .ok (.iload_n 3, 1) := by decide +kernel
theorem dX5_openBehind_34 : decode cX5_openBehind 34 = .ok (.invokevirtual 85, 3) := by decide +kernel
theorem dX5_openBehind_37 : decode cX5_openBehind 37 = .ok (.if_icmp .ge 51, 3) := by decide +kernel
theorem dX5_openBehind_40 : decode cX5_openBehind 40 = .ok (.iload 4, 2) := by decide +kernel
theorem dX5_openBehind_42 : decode cX5_openBehind 42 = .ok (.iconst 3, 1) := by decide +kernel
theorem dX5_openBehind_43 : decode cX5_openBehind 43 = .ok (.if_icmp .ge 45, 3) := by decide +kernel
theorem dX5_openBehind_46 : decode cX5_openBehind 46 = .ok (.aload_n 0, 1) := by decide +kernel
theorem dX5_openBehind_47 : decode cX5_openBehind 47 = .ok (.getfield 45, 3) := by decide +kernel
theorem dX5_openBehind_50 : decode cX5_openBehind 50 = .ok (.iload_n 3, 1) := by decide +kernel
theorem dX5_openBehind_51 : decode cX5_openBehind 51 = .ok (.iload 4, 2) := by decide +kernel
theorem dX5_openBehind_53 : decode cX5_openBehind 53 = .ok (.invokevirtual 88, 3) := by decide +kernel
theorem dX5_openBehind_56 : decode cX5_openBehind 56 = .ok (.istore 5, 2) := by decide +kernel
theorem dX5_openBehind_58 : decode cX5_openBehind 58 = .ok (.iload 5, 2) := by decide +kernel
theorem dX5_openBehind_60 : decode cX5_openBehind 60 = .ok (.iload_n 2, 1) := by decide +kernel
theorem dX5_openBehind_61 : decode cX5_openBehind 61 = .ok (.if_icmp .gt 21, 3) := by decide +kernel
theorem dX5_openBehind_64 : decode cX5_openBehind 64 = .ok (.aload_n 0, 1) := by decide +kernel
theorem dX5_openBehind_65 : decode cX5_openBehind 65 = .ok (.iload_n 1, 1) := by decide +kernel
theorem dX5_openBehind_66 : decode cX5_openBehind 66 = .ok (.iconst 1, 1) := by decide +kernel
theorem dX5_openBehind_67 : decode cX5_openBehind 67 = .ok (.iadd, 1) := by decide +kernel
theorem dX5_openBehind_68 : decode cX5_openBehind 68 = .ok (.aload_n 0, 1) := by decide +kernel
theorem dX5_openBehind_69 : decode cX5_openBehind 69 = .ok (.getfield 35, 3) := by decide +kernel
theorem dX5_openBehind_72 : decode cX5_openBehind 72 = .ok (.iload_n 2, 1) := by decide +kernel
theorem dX5_openBehind_73 : decode cX5_openBehind 73 = .ok (.iload 5, 2) := by decide +kernel
theorem dX5_openBehind_75 : decode cX5_openBehind 75 = .ok (.isub, 1) := by decide +kernel
theorem dX5_openBehind_76 : decode cX5_openBehind 76 = .ok (.invokevirtual 82, 3) := by decide +kernel
theorem dX5_openBehind_79 : decode cX5_openBehind 79 = .ok (.invokevirtual 54, 3) := by decide +kernel
theorem dX5_openBehind_82 : decode cX5_openBehind 82 = .ok (.iinc 4 1, 3) := by decide +kernel
theorem dX5_openBehind_85 : decode cX5_openBehind 85 = .ok (.goto (-58), 3) := by decide +kernel
theorem dX5_openBehind_88 : decode cX5_openBehind 88 = .ok (.return_, 1) := by decide +kernel
theorem dX5_openState_0 : decode cX5_openState 0 = .ok (.iload_n 1, 1) := by decide +kernel
theorem dX5_openState_1 : decode cX5_openState 1 = .ok (.iload_n 2, 1) := by decide +kernel
theorem dX5_openState_2 : decode cX5_openState 2 = .ok (.invokestatic 92, 3) := by decide +kernel
theorem dX5_openState_5 : decode cX5_openState 5 = .ok (.istore_n 3, 1) := by decide +kernel
theorem dX5_openState_6 : decode cX5_openState 6 = .ok (.iload_n 1, 1) := by decide +kernel
theorem dX5_openState_7 : decode cX5_openState 7 = .ok (.aload_n 0, 1) := by decide +kernel
theorem dX5_openState_8 : decode cX5_openState 8 = .ok (.getfield 32, 3) := by decide +kernel
theorem dX5_openState_11 : decode cX5_openState 11 = .ok (.if_icmp .ge 52, 3) := by decide +kernel
theorem dX5_openState_14 : decode cX5_openState 14 = .ok (.aload_n 0, 1) := by decide +kernel
theorem dX5_openState_15 : decode cX5_openState 15 = .ok (.getfield 26, 3) := by decide +kernel
theorem dX5_openState_18 : decode cX5_openState 18 = .ok (.iload_n 3, 1) := by decide +kernel
theorem dX5_openState_19 : decode cX5_openState 19 = .ok (.invokestatic 71, 3) := by decide +kernel
theorem dX5_openState_22 : decode cX5_openState 22 = .ok (.aload_n 0, 1) := by decide +kernel
theorem dX5_openState_23 : decode cX5_openState 23 = .ok (.getfield 29, 3) := by decide +kernel
theorem dX5_openState_26 : decode cX5_openState 26 = .ok (.if_icmp .eq 37, 3) := by decide +kernel
theorem dX5_openState_29 : decode cX5_openState 29 = .ok (.aload_n 0, 1) := by decide +kernel
theorem dX5_openState_30 : decode cX5_openState 30 = .ok (.getfield 26, 3) := by decide +kernel
theorem dX5_openState_33 : decode cX5_openState 33 = .ok (.iload_n 3, 1) := by decide +kernel
theorem dX5_openState_34 : decode cX5_openState 34 = .ok (.aload_n 0, 1) := by decide +kernel
theorem dX5_openState_35 : decode cX5_openState 35 = .ok (.getfield 29, 3) := by decide +kernel
theorem dX5_openState_38 : decode cX5_openState 38 = .ok (.invokestatic 95, 3) := by decide +kernel
theorem dX5_openState_41 : decode cX5_openState 41 = .ok (.aload_n 0, 1) := by decide +kernel
theorem dX5_openState_42 : decode cX5_openState 42 = .ok (.getfield 19, 3) := by decide +kernel
theorem dX5_openState_45 : decode cX5_openState 45 = .ok (.aload_n 0, 1) := by decide +kernel
theorem dX5_openState_46 : decode cX5_openState 46 = .ok (.getfield 22, 3) := by decide +kernel
theorem dX5_openState_49 : decode cX5_openState 49 = .ok (.iload_n 3, 1) := by decide +kernel
theorem dX5_openState_50 : decode cX5_openState 50 = .ok (.invokestatic 95, 3) := by decide +kernel
theorem dX5_openState_53 : decode cX5_openState 53 = .ok (.aload_n 0, 1) := by decide +kernel
theorem dX5_openState_54 : decode cX5_openState 54 = .ok (.dup, 1) := by decide +kernel
theorem dX5_openState_55 : decode cX5_openState 55 = .ok (.getfield 22, 3) := by decide +kernel
theorem dX5_openState_58 : decode cX5_openState 58 = .ok (.iconst 1, 1) := by decide +kernel
theorem dX5_openState_59 : decode cX5_openState 59 = .ok (.iadd, 1) := by decide +kernel
theorem dX5_openState_60 : decode cX5_openState 60 = .ok (.putfield 22, 3) := by decide +kernel
theorem dX5_openState_63 : decode cX5_openState 63 = .ok (.return_, 1) := by decide +kernel
theorem dX5_settleAll_0 : decode cX5_settleAll 0 = .ok (.aload_n 0, 1) := by decide +kernel
theorem dX5_settleAll_1 : decode cX5_settleAll 1 = .ok (.getfield 22, 3) := by decide +kernel
theorem dX5_settleAll_4 : decode cX5_settleAll 4 = .ok (.iconst 1, 1) := by decide +kernel
theorem dX5_settleAll_5 : decode cX5_settleAll 5 = .ok (.isub, 1) := by decide +kernel
theorem dX5_settleAll_6 : decode cX5_settleAll 6 = .ok (.istore_n 2, 1) := by decide +kernel
theorem dX5_settleAll_7 : decode cX5_settleAll 7 = .ok (.iload_n 2, 1) := by decide +kernel
theorem dX5_settleAll_8 : decode cX5_settleAll 8 = .ok (.ifCond .lt 31, 3) := by decide +kernel
theorem dX5_settleAll_11 : decode cX5_settleAll 11 = .ok (.aload_n 0, 1) := by decide +kernel
theorem dX5_settleAll_12 : decode cX5_settleAll 12 = .ok (.getfield 19, 3) := by decide +kernel
theorem dX5_settleAll_15 : decode cX5_settleAll 15 = .ok (.iload_n 2, 1) := by decide +kernel
theorem dX5_settleAll_16 : decode cX5_settleAll 16 = .ok (.invokestatic 71, 3) := by decide +kernel
theorem dX5_settleAll_19 : decode cX5_settleAll 19 = .ok (.istore_n 3, 1) := by decide +kernel
theorem dX5_settleAll_20 : decode cX5_settleAll 20 = .ok (.aload_n 0, 1) := by decide +kernel
theorem dX5_settleAll_21 : decode cX5_settleAll 21 = .ok (.iload_n 3, 1) := by decide +kernel
theorem dX5_settleAll_22 : decode cX5_settleAll 22 = .ok (.bipush 100, 2) := by decide +kernel
theorem dX5_settleAll_24 : decode cX5_settleAll 24 = .ok (.idiv, 1) := by decide +kernel
theorem dX5_settleAll_25 : decode cX5_settleAll 25 = .ok (.iload_n 3, 1) := by decide +kernel
theorem dX5_settleAll_26 : decode cX5_settleAll 26 = .ok (.bipush 100, 2) := by decide +kernel
theorem dX5_settleAll_28 : decode cX5_settleAll 28 = .ok (.irem, 1) := by decide +kernel
theorem dX5_settleAll_29 : decode cX5_settleAll 29 = .ok (.iload_n 1, 1) := by decide +kernel
theorem dX5_settleAll_30 : decode cX5_settleAll 30 = .ok (.invokevirtual 99, 3) := by decide +kernel
theorem dX5_settleAll_33 : decode cX5_settleAll 33 = .ok (.iinc 2 (-1), 3) := by decide +kernel
theorem dX5_settleAll_36 : decode cX5_settleAll 36 = .ok (.goto (-29), 3) := by decide +kernel
theorem dX5_settleAll_39 : decode cX5_settleAll 39 = .ok (.return_, 1) := by decide +kernel
theorem dX5_settle_0 : decode cX5_settle 0 = .ok (.aload_n 0, 1) := by decide +kernel
theorem dX5_settle_1 : decode cX5_settle 1 = .ok (.getfield 35, 3) := by decide +kernel
theorem dX5_settle_4 : decode cX5_settle 4 = .ok (.iload_n 1, 1) := by decide +kernel
theorem dX5_settle_5 : decode cX5_settle 5 = .ok (.invokevirtual 78, 3) := by decide +kernel
theorem dX5_settle_8 : decode cX5_settle 8 = .ok (.istore 4, 2) := by decide +kernel
theorem dX5_settle_10 : decode cX5_settle 10 = .ok (.aload_n 0, 1) := by decide +kernel
theorem dX5_settle_11 : decode cX5_settle 11 = .ok (.getfield 45, 3) := by decide +kernel
theorem dX5_settle_14 : decode cX5_settle 14 = .ok (.iload 4, 2) := by decide +kernel
theorem dX5_settle_16 : decode cX5_settle 16 = .ok (.invokevirtual 103, 3) := by decide +kernel
theorem dX5_settle_19 : decode cX5_settle 19 = .ok (.istore 5, 2) := by decide +kernel
theorem dX5_settle_21 : decode cX5_settle 21 = .ok (.iload_n 3, 1) := by decide +kernel
theorem dX5_settle_22 : decode cX5_settle 22 = .ok (.ifCond .ne 9, 3) := by decide +kernel
theorem dX5_settle_25 : decode cX5_settle 25 = .ok (.iload 5, 2) := by decide +kernel
theorem dX5_settle_27 : decode cX5_settle 27 = .ok (.iconst 2, 1) := by decide +kernel
theorem dX5_settle_28 : decode cX5_settle 28 = .ok (.if_icmp .eq 15, 3) := by decide +kernel
theorem dX5_settle_31 : decode cX5_settle 31 = .ok (.aload_n 0, 1) := by decide +kernel
theorem dX5_settle_32 : decode cX5_settle 32 = .ok (.getfield 45, 3) := by decide +kernel
theorem dX5_settle_35 : decode cX5_settle 35 = .ok (.iload 4, 2) := by decide +kernel
theorem dX5_settle_37 : decode cX5_settle 37 = .ok (.invokevirtual 85, 3) := by decide +kernel
theorem dX5_settle_40 : decode cX5_settle 40 = .ok (.goto 4, 3) := by decide +kernel
theorem dX5_settle_43 : decode cX5_settle 43 = .ok (.iconst 0, 1) := by decide +kernel
theorem dX5_settle_44 : decode cX5_settle 44 = .ok (.istore 6, 2) := by decide +kernel
theorem dX5_settle_46 : decode cX5_settle 46 = .ok (.bipush (-9), 2) := by decide +kernel
theorem dX5_settle_48 : decode cX5_settle 48 = .ok (.istore 7, 2) := by decide +kernel
theorem dX5_settle_50 : decode cX5_settle 50 = .ok (.iconst 0, 1) := by decide +kernel
theorem dX5_settle_51 : decode cX5_settle 51 = .ok (.istore 8, 2) := by decide +kernel
theorem dX5_settle_53 : decode cX5_settle 53 = .ok (.aload_n 0, 1) := by decide +kernel
theorem dX5_settle_54 : decode cX5_settle 54 = .ok (.iload_n 1, 1) := by decide +kernel
theorem dX5_settle_55 : decode cX5_settle 55 = .ok (.iconst 1, 1) := by decide +kernel
theorem dX5_settle_56 : decode cX5_settle 56 = .ok (.iadd, 1) := by decide +kernel
theorem dX5_settle_57 : decode cX5_settle 57 = .ok (.aload_n 0, 1) := by decide +kernel
theorem dX5_settle_58 : decode cX5_settle 58 = .ok (.getfield 35, 3) := by decide +kernel
theorem dX5_settle_61 : decode cX5_settle 61 = .ok (.iload_n 2, 1) := by decide +kernel
theorem dX5_settle_62 : decode cX5_settle 62 = .ok (.invokevirtual 82, 3) := by decide +kernel
theorem dX5_settle_65 : decode cX5_settle 65 = .ok (.invokevirtual 106, 3) := by decide +kernel
theorem dX5_settle_68 : decode cX5_settle 68 = .ok (.lstore 9, 2) := by decide +kernel
theorem dX5_settle_70 : decode cX5_settle 70 = .ok (.iconst 0, 1) := by decide +kernel
theorem dX5_settle_71 : decode cX5_settle 71 = .ok (.istore 11, 2) := by decide +kernel
theorem dX5_settle_73 : decode cX5_settle 73 = .ok (.iload 11, 2) := by decide +kernel
theorem dX5_settle_75 : decode cX5_settle 75 = .ok (.iload 6, 2) := by decide +kernel
theorem dX5_settle_77 : decode cX5_settle 77 = .ok (.if_icmp .ge 162, 3) := by decide +kernel
theorem dX5_settle_80 : decode cX5_settle 80 = .ok (.iload 11, 2) := by decide +kernel
theorem dX5_settle_82 : decode cX5_settle 82 = .ok (.iconst 3, 1) := by decide +kernel
theorem dX5_settle_83 : decode cX5_settle 83 = .ok (.if_icmp .ge 156, 3) := by decide +kernel
theorem dX5_settle_86 : decode cX5_settle 86 = .ok (.aload_n 0, 1) := by decide +kernel
theorem dX5_settle_87 : decode cX5_settle 87 = .ok (.getfield 45, 3) := by decide +kernel
theorem dX5_settle_90 : decode cX5_settle 90 = .ok (.iload 4, 2) := by decide +kernel
theorem dX5_settle_92 : decode cX5_settle 92 = .ok (.iload 11, 2) := by decide +kernel
theorem dX5_settle_94 : decode cX5_settle 94 = .ok (.invokevirtual 88, 3) := by decide +kernel
theorem dX5_settle_97 : decode cX5_settle 97 = .ok (.istore 12, 2) := by decide +kernel
theorem dX5_settle_99 : decode cX5_settle 99 = .ok (.iload 12, 2) := by decide +kernel
theorem dX5_settle_101 : decode cX5_settle 101 = .ok (.iload_n 2, 1) := by decide +kernel
theorem dX5_settle_102 : decode cX5_settle 102 = .ok (.if_icmp .gt 131, 3) := by decide +kernel
theorem dX5_settle_105 : decode cX5_settle 105 = .ok (.aload_n 0, 1) := by decide +kernel
theorem dX5_settle_106 : decode cX5_settle 106 = .ok (.getfield 35, 3) := by decide +kernel
theorem dX5_settle_109 : decode cX5_settle 109 = .ok (.iload_n 2, 1) := by decide +kernel
theorem dX5_settle_110 : decode cX5_settle 110 = .ok (.iload 12, 2) := by decide +kernel
theorem dX5_settle_112 : decode cX5_settle 112 = .ok (.isub, 1) := by decide +kernel
theorem dX5_settle_113 : decode cX5_settle 113 = .ok (.invokevirtual 82, 3) := by decide +kernel
theorem dX5_settle_116 : decode cX5_settle 116 = .ok (.istore 13, 2) := by decide +kernel
theorem dX5_settle_118 : decode cX5_settle 118 = .ok (.aload_n 0, 1) := by decide +kernel
theorem dX5_settle_119 : decode cX5_settle 119 = .ok (.iload_n 1, 1) := by decide +kernel
theorem dX5_settle_120 : decode cX5_settle 120 = .ok (.iconst 1, 1) := by decide +kernel
theorem dX5_settle_121 : decode cX5_settle 121 = .ok (.iadd, 1) := by decide +kernel
theorem dX5_settle_122 : decode cX5_settle 122 = .ok (.iload 13, 2) := by decide +kernel
theorem dX5_settle_124 : decode cX5_settle 124 = .ok (.invokevirtual 106, 3) := by decide +kernel
theorem dX5_settle_127 : decode cX5_settle 127 = .ok (.aload_n 0, 1) := by decide +kernel
theorem dX5_settle_128 : decode cX5_settle 128 = .ok (.getfield 45, 3) := by decide +kernel
theorem dX5_settle_131 : decode cX5_settle 131 = .ok (.iload 4, 2) := by decide +kernel
theorem dX5_settle_133 : decode cX5_settle 133 = .ok (.iload 11, 2) := by decide +kernel
theorem dX5_settle_135 : decode cX5_settle 135 = .ok (.invokevirtual 110, 3) := by decide +kernel
theorem dX5_settle_138 : decode cX5_settle 138 = .ok (.ladd, 1) := by decide +kernel
theorem dX5_settle_139 : decode cX5_settle 139 = .ok (.lstore 14, 2) := by decide +kernel
theorem dX5_settle_141 : decode cX5_settle 141 = .ok (.iload_n 3, 1) := by decide +kernel
theorem dX5_settle_142 : decode cX5_settle 142 = .ok (.ifCond .eq 17, 3) := by decide +kernel
theorem dX5_settle_145 : decode cX5_settle 145 = .ok (.lload 14, 2) := by decide +kernel
theorem dX5_settle_147 : decode cX5_settle 147 = .ok (.invokestatic 113, 3) := by decide +kernel
theorem dX5_settle_150 : decode cX5_settle 150 = .ok (.lload 9, 2) := by decide +kernel
theorem dX5_settle_152 : decode cX5_settle 152 = .ok (.invokestatic 113, 3) := by decide +kernel
theorem dX5_settle_155 : decode cX5_settle 155 = .ok (.isub, 1) := by decide +kernel
theorem dX5_settle_156 : decode cX5_settle 156 = .ok (.goto 18, 3) := by decide +kernel
theorem dX5_settle_159 : decode cX5_settle 159 = .ok (.lload 14, 2) := by decide +kernel
theorem dX5_settle_161 : decode cX5_settle 161 = .ok (.iload 4, 2) := by decide +kernel
theorem dX5_settle_163 : decode cX5_settle 163 = .ok (.invokestatic 117, 3) := by decide +kernel
theorem dX5_settle_166 : decode cX5_settle 166 = .ok (.lload 9, 2) := by decide +kernel
theorem dX5_settle_168 : decode cX5_settle 168 = .ok (.iload 4, 2) := by decide +kernel
theorem dX5_settle_170 : decode cX5_settle 170 = .ok (.invokestatic 117, 3) := by decide +kernel
theorem dX5_settle_173 : decode cX5_settle 173 = .ok (.isub, 1) := by decide +kernel
theorem dX5_settle_174 : decode cX5_settle 174 = .ok (.istore 16, 2) := by decide +kernel
theorem dX5_settle_176 : decode cX5_settle 176 = .ok (.iload_n 3, 1) := by decide +kernel
theorem dX5_settle_177 : decode cX5_settle 177 = .ok (.ifCond .eq 18, 3) := by decide +kernel
theorem dX5_settle_180 : decode cX5_settle 180 = .ok (.iload 7, 2) := by decide +kernel
theorem dX5_settle_182 : decode cX5_settle 182 = .ok (.bipush (-9), 2) := by decide +kernel
theorem dX5_settle_184 : decode cX5_settle 184 = .ok (.if_icmp .ne 7, 3) := by decide +kernel
theorem dX5_settle_187 : decode cX5_settle 187 = .ok (.iconst 1, 1) := by decide +kernel
theorem dX5_settle_188 : decode cX5_settle 188 = .ok (.goto 16, 3) := by decide +kernel
theorem dX5_settle_191 : decode cX5_settle 191 = .ok (.iconst 0, 1) := by decide +kernel
theorem dX5_settle_192 : decode cX5_settle 192 = .ok (.goto 12, 3) := by decide +kernel
theorem dX5_settle_195 : decode cX5_settle 195 = .ok (.iload 5, 2) := by decide +kernel
theorem dX5_settle_197 : decode cX5_settle 197 = .ok (.iload 12, 2) := by decide +kernel
theorem dX5_settle_199 : decode cX5_settle 199 = .ok (.iload 8, 2) := by decide +kernel
theorem dX5_settle_201 : decode cX5_settle 201 = .ok (.invokestatic 121, 3) := by decide +kernel
theorem dX5_settle_204 : decode cX5_settle 204 = .ok (.istore 17, 2) := by decide +kernel
theorem dX5_settle_206 : decode cX5_settle 206 = .ok (.iload 16, 2) := by decide +kernel
theorem dX5_settle_208 : decode cX5_settle 208 = .ok (.ifCond .gt 13, 3) := by decide +kernel
theorem dX5_settle_211 : decode cX5_settle 211 = .ok (.iload 16, 2) := by decide +kernel
theorem dX5_settle_213 : decode cX5_settle 213 = .ok (.ifCond .ne 20, 3) := by decide +kernel
theorem dX5_settle_216 : decode cX5_settle 216 = .ok (.iload 17, 2) := by decide +kernel
theorem dX5_settle_218 : decode cX5_settle 218 = .ok (.ifCond .eq 15, 3) := by decide +kernel
theorem dX5_settle_221 : decode cX5_settle 221 = .ok (.iload 11, 2) := by decide +kernel
theorem dX5_settle_223 : decode cX5_settle 223 = .ok (.istore 7, 2) := by decide +kernel
theorem dX5_settle_225 : decode cX5_settle 225 = .ok (.iload 12, 2) := by decide +kernel
theorem dX5_settle_227 : decode cX5_settle 227 = .ok (.istore 8, 2) := by decide +kernel
theorem dX5_settle_229 : decode cX5_settle 229 = .ok (.lload 14, 2) := by decide +kernel
theorem dX5_settle_231 : decode cX5_settle 231 = .ok (.lstore 9, 2) := by decide +kernel
theorem dX5_settle_233 : decode cX5_settle 233 = .ok (.iinc 11 1, 3) := by decide +kernel
theorem dX5_settle_236 : decode cX5_settle 236 = .ok (.goto (-163), 3) := by decide +kernel
theorem dX5_settle_239 : decode cX5_settle 239 = .ok (.aload_n 0, 1) := by decide +kernel
theorem dX5_settle_240 : decode cX5_settle 240 = .ok (.getfield 11, 3) := by decide +kernel
theorem dX5_settle_243 : decode cX5_settle 243 = .ok (.iload_n 1, 1) := by decide +kernel
theorem dX5_settle_244 : decode cX5_settle 244 = .ok (.iload_n 2, 1) := by decide +kernel
theorem dX5_settle_245 : decode cX5_settle 245 = .ok (.invokestatic 92, 3) := by decide +kernel
theorem dX5_settle_248 : decode cX5_settle 248 = .ok (.iload 7, 2) := by decide +kernel
theorem dX5_settle_250 : decode cX5_settle 250 = .ok (.invokestatic 95, 3) := by decide +kernel
theorem dX5_settle_253 : decode cX5_settle 253 = .ok (.aload_n 0, 1) := by decide +kernel
theorem dX5_settle_254 : decode cX5_settle 254 = .ok (.getfield 15, 3) := by decide +kernel
theorem dX5_settle_257 : decode cX5_settle 257 = .ok (.iload_n 1, 1) := by decide +kernel
theorem dX5_settle_258 : decode cX5_settle 258 = .ok (.iload_n 2, 1) := by decide +kernel
theorem dX5_settle_259 : decode cX5_settle 259 = .ok (.invokestatic 92, 3) := by decide +kernel
theorem dX5_settle_262 : decode cX5_settle 262 = .ok (.lload 9, 2) := by decide +kernel
theorem dX5_settle_264 : decode cX5_settle 264 = .ok (.invokestatic 125, 3) := by decide +kernel
theorem dX5_settle_267 : decode cX5_settle 267 = .ok (.return_, 1) := by decide +kernel
theorem dX5_isRather_0 : decode cX5_isRather 0 = .ok (.iload_n 0, 1) := by decide +kernel
theorem dX5_isRather_1 : decode cX5_isRather 1 = .ok (.ifCond .ne 16, 3) := by decide +kernel
theorem dX5_isRather_4 : decode cX5_isRather 4 = .ok (.iload_n 1, 1) := by decide +kernel
theorem dX5_isRather_5 : decode cX5_isRather 5 = .ok (.iload_n 2, 1) := by decide +kernel
theorem dX5_isRather_6 : decode cX5_isRather 6 = .ok (.if_icmp .le 7, 3) := by decide +kernel
theorem dX5_isRather_9 : decode cX5_isRather 9 = .ok (.iconst 1, 1) := by decide +kernel
theorem dX5_isRather_10 : decode cX5_isRather 10 = .ok (.goto 17, 3) := by decide +kernel
theorem dX5_isRather_13 : decode cX5_isRather 13 = .ok (.iconst 0, 1) := by decide +kernel
theorem dX5_isRather_14 : decode cX5_isRather 14 = .ok (.goto 13, 3) := by decide +kernel
theorem dX5_isRather_17 : decode cX5_isRather 17 = .ok (.iload_n 1, 1) := by decide +kernel
theorem dX5_isRather_18 : decode cX5_isRather 18 = .ok (.iload_n 2, 1) := by decide +kernel
theorem dX5_isRather_19 : decode cX5_isRather 19 = .ok (.if_icmp .ge 7, 3) := by decide +kernel
theorem dX5_isRather_22 : decode cX5_isRather 22 = .ok (.iconst 1, 1) := by decide +kernel
theorem dX5_isRather_23 : decode cX5_isRather 23 = .ok (.goto 4, 3) := by decide +kernel
theorem dX5_isRather_26 : decode cX5_isRather 26 = .ok (.iconst 0, 1) := by decide +kernel
theorem dX5_isRather_27 : decode cX5_isRather 27 = .ok (.ireturn, 1) := by decide +kernel
theorem dX5_worthsFrom_0 : decode cX5_worthsFrom 0 = .ok (.iload_n 1, 1) := by decide +kernel
theorem dX5_worthsFrom_1 : decode cX5_worthsFrom 1 = .ok (.aload_n 0, 1) := by decide +kernel
theorem dX5_worthsFrom_2 : decode cX5_worthsFrom 2 = .ok (.getfield 32, 3) := by decide +kernel
theorem dX5_worthsFrom_5 : decode cX5_worthsFrom 5 = .ok (.if_icmp .ge 18, 3) := by decide +kernel
theorem dX5_worthsFrom_8 : decode cX5_worthsFrom 8 = .ok (.aload_n 0, 1) := by decide +kernel
theorem dX5_worthsFrom_9 : decode cX5_worthsFrom 9 = .ok (.getfield 15, 3) := by decide +kernel
theorem dX5_worthsFrom_12 : decode cX5_worthsFrom 12 = .ok (.iload_n 1, 1) := by decide +kernel
theorem dX5_worthsFrom_13 : decode cX5_worthsFrom 13 = .ok (.iload_n 2, 1) := by decide +kernel
theorem dX5_worthsFrom_14 : decode cX5_worthsFrom 14 = .ok (.invokestatic 92, 3) := by decide +kernel
theorem dX5_worthsFrom_17 : decode cX5_worthsFrom 17 = .ok (.invokestatic 129, 3) := by decide +kernel
theorem dX5_worthsFrom_20 : decode cX5_worthsFrom 20 = .ok (.goto 4, 3) := by decide +kernel
theorem dX5_worthsFrom_23 : decode cX5_worthsFrom 23 = .ok (.lconst 0, 1) := by decide +kernel
theorem dX5_worthsFrom_24 : decode cX5_worthsFrom 24 = .ok (.lreturn, 1) := by decide +kernel
theorem dX5_wordAt_0 : decode cX5_wordAt 0 = .ok (.aload_n 0, 1) := by decide +kernel
theorem dX5_wordAt_1 : decode cX5_wordAt 1 = .ok (.getfield 11, 3) := by decide +kernel
theorem dX5_wordAt_4 : decode cX5_wordAt 4 = .ok (.iload_n 1, 1) := by decide +kernel
theorem dX5_wordAt_5 : decode cX5_wordAt 5 = .ok (.iload_n 2, 1) := by decide +kernel
theorem dX5_wordAt_6 : decode cX5_wordAt 6 = .ok (.invokestatic 92, 3) := by decide +kernel
theorem dX5_wordAt_9 : decode cX5_wordAt 9 = .ok (.invokestatic 71, 3) := by decide +kernel
theorem dX5_wordAt_12 : decode cX5_wordAt 12 = .ok (.ireturn, 1) := by decide +kernel
theorem dX5_stateOf_0 : decode cX5_stateOf 0 = .ok (.iload_n 0, 1) := by decide +kernel
theorem dX5_stateOf_1 : decode cX5_stateOf 1 = .ok (.bipush 100, 2) := by decide +kernel
theorem dX5_stateOf_3 : decode cX5_stateOf 3 = .ok (.imul, 1) := by decide +kernel
theorem dX5_stateOf_4 : decode cX5_stateOf 4 = .ok (.iload_n 1, 1) := by decide +kernel
theorem dX5_stateOf_5 : decode cX5_stateOf 5 = .ok (.iadd, 1) := by decide +kernel
theorem dX5_stateOf_6 : decode cX5_stateOf 6 = .ok (.ireturn, 1) := by decide +kernel
theorem dX6_init_0 : decode cX6_init 0 = .ok (.aload_n 0, 1) := by decide +kernel
theorem dX6_init_1 : decode cX6_init 1 = .ok (.invokespecial 3, 3) := by decide +kernel
theorem dX6_init_4 : decode cX6_init 4 = .ok (.aload_n 0, 1) := by decide +kernel
theorem dX6_init_5 : decode cX6_init 5 = .ok (.iconst 0, 1) := by decide +kernel
theorem dX6_init_6 : decode cX6_init 6 = .ok (.putfield 9, 3) := by decide +kernel
theorem dX6_init_9 : decode cX6_init 9 = .ok (.aload_n 0, 1) := by decide +kernel
theorem dX6_init_10 : decode cX6_init 10 = .ok (.iconst 0, 1) := by decide +kernel
theorem dX6_init_11 : decode cX6_init 11 = .ok (.putfield 15, 3) := by decide +kernel
theorem dX6_init_14 : decode cX6_init 14 = .ok (.aload_n 0, 1) := by decide +kernel
theorem dX6_init_15 : decode cX6_init 15 = .ok (.iconst 0, 1) := by decide +kernel
theorem dX6_init_16 : decode cX6_init 16 = .ok (.putfield 18, 3) := by decide +kernel
theorem dX6_init_19 : decode cX6_init 19 = .ok (.aload_n 0, 1) := by decide +kernel
theorem dX6_init_20 : decode cX6_init 20 = .ok (.iconst (-1), 1) := by decide +kernel
theorem dX6_init_21 : decode cX6_init 21 = .ok (.putfield 21, 3) := by decide +kernel
theorem dX6_init_24 : decode cX6_init 24 = .ok (.aload_n 0, 1) := by decide +kernel
theorem dX6_init_25 : decode cX6_init 25 = .ok (.aload_n 1, 1) := by decide +kernel
theorem dX6_init_26 : decode cX6_init 26 = .ok (.putfield 24, 3) := by decide +kernel
theorem dX6_init_29 : decode cX6_init 29 = .ok (.aload_n 0, 1) := by decide +kernel
theorem dX6_init_30 : decode cX6_init 30 = .ok (.aload_n 2, 1) := by decide +kernel
theorem dX6_init_31 : decode cX6_init 31 = .ok (.putfield 28, 3) := by decide +kernel
theorem dX6_init_34 : decode cX6_init 34 = .ok (.return_, 1) := by decide +kernel
theorem dX6_firstFault_0 : decode cX6_firstFault 0 = .ok (.aload_n 0, 1) := by decide +kernel
theorem dX6_firstFault_1 : decode cX6_firstFault 1 = .ok (.iload_n 1, 1) := by decide +kernel
theorem dX6_firstFault_2 : decode cX6_firstFault 2 = .ok (.putfield 9, 3) := by decide +kernel
theorem dX6_firstFault_5 : decode cX6_firstFault 5 = .ok (.aload_n 0, 1) := by decide +kernel
theorem dX6_firstFault_6 : decode cX6_firstFault 6 = .ok (.iload_n 2, 1) := by decide +kernel
theorem dX6_firstFault_7 : decode cX6_firstFault 7 = .ok (.putfield 15, 3) := by decide +kernel
theorem dX6_firstFault_10 : decode cX6_firstFault 10 = .ok (.aload_n 0, 1) := by decide +kernel
theorem dX6_firstFault_11 : decode cX6_firstFault 11 = .ok (.iconst 0, 1) := by decide +kernel
theorem dX6_firstFault_12 : decode cX6_firstFault 12 = .ok (.putfield 18, 3) := by decide +kernel
theorem dX6_firstFault_15 : decode cX6_firstFault 15 = .ok (.aload_n 0, 1) := by decide +kernel
theorem dX6_firstFault_16 : decode cX6_firstFault 16 = .ok (.iconst (-1), 1) := by decide +kernel
theorem dX6_firstFault_17 : decode cX6_firstFault 17 = .ok (.putfield 21, 3) := by decide +kernel
theorem dX6_firstFault_20 : decode cX6_firstFault 20 = .ok (.aload_n 0, 1) := by decide +kernel
theorem dX6_firstFault_21 : decode cX6_firstFault 21 = .ok (.invokevirtual 32, 3) := by decide +kernel
theorem dX6_firstFault_24 : decode cX6_firstFault 24 = .ok (.ifCond .ne 8, 3) := by decide +kernel
theorem dX6_firstFault_27 : decode cX6_firstFault 27 = .ok (.aload_n 0, 1) := by decide +kernel
theorem dX6_firstFault_28 : decode cX6_firstFault 28 = .ok (.getfield 21, 3) := by decide +kernel
theorem dX6_firstFault_31 : decode cX6_firstFault 31 = .ok (.ireturn, 1) := by decide +kernel
theorem dX6_firstFault_32 : decode cX6_firstFault 32 = .ok (.iconst 0, 1) := by decide +kernel
theorem dX6_firstFault_33 : decode cX6_firstFault 33 = .ok (.istore_n 3, 1) := by decide +kernel
theorem dX6_firstFault_34 : decode cX6_firstFault 34 = .ok (.iload_n 3, 1) := by decide +kernel
theorem dX6_firstFault_35 : decode cX6_firstFault 35 = .ok (.iconst 5, 1) := by decide +kernel
theorem dX6_firstFault_36 : decode cX6_firstFault 36 = .ok (.if_icmp .ge 48, 3) := by decide +kernel
theorem dX6_firstFault_39 : decode cX6_firstFault 39 = .ok (.iload_n 3, 1) := by decide +kernel
theorem dX6_firstFault_40 : decode cX6_firstFault 40 = .ok (.iconst 2, 1) := by decide +kernel
theorem dX6_firstFault_41 : decode cX6_firstFault 41 = .ok (.if_icmp .lt 16, 3) := by decide +kernel
theorem dX6_firstFault_44 : decode cX6_firstFault 44 = .ok (.aload_n 0, 1) := by decide +kernel
theorem dX6_firstFault_45 : decode cX6_firstFault 45 = .ok (.getfield 18, 3) := by decide +kernel
theorem dX6_firstFault_48 : decode cX6_firstFault 48 = .ok (.aload_n 0, 1) := by decide +kernel
theorem dX6_firstFault_49 : decode cX6_firstFault 49 = .ok (.getfield 15, 3) := by decide +kernel
theorem dX6_firstFault_52 : decode cX6_firstFault 52 = .ok (.if_icmp .lt 5, 3) := by decide +kernel
theorem dX6_firstFault_55 : decode cX6_firstFault 55 = .ok (.iconst (-1), 1) := by decide +kernel
theorem dX6_firstFault_56 : decode cX6_firstFault 56 = .ok (.ireturn, 1) := by decide +kernel
theorem dX6_firstFault_57 : decode cX6_firstFault 57 = .ok (.aload_n 0, 1) := by decide +kernel
theorem dX6_firstFault_58 : decode cX6_firstFault 58 = .ok (.bipush 59, 2) := by decide +kernel
theorem dX6_firstFault_60 : decode cX6_firstFault 60 = .ok (.invokevirtual 36, 3) := by decide +kernel
theorem dX6_firstFault_63 : decode cX6_firstFault 63 = .ok (.ifCond .eq 10, 3) := by decide +kernel
theorem dX6_firstFault_66 : decode cX6_firstFault 66 = .ok (.aload_n 0, 1) := by decide +kernel
theorem dX6_firstFault_67 : decode cX6_firstFault 67 = .ok (.invokevirtual 40, 3) := by decide +kernel
theorem dX6_firstFault_70 : decode cX6_firstFault 70 = .ok (.ifCond .ne 8, 3) := by decide +kernel
theorem dX6_firstFault_73 : decode cX6_firstFault 73 = .ok (.aload_n 0, 1) := by decide +kernel
theorem dX6_firstFault_74 : decode cX6_firstFault 74 = .ok (.getfield 21, 3) := by decide +kernel
theorem dX6_firstFault_77 : decode cX6_firstFault 77 = .ok (.ireturn, 1) := by decide +kernel
theorem dX6_firstFault_78 : decode cX6_firstFault 78 = .ok (.iinc 3 1, 3) := by decide +kernel
theorem dX6_firstFault_81 : decode cX6_firstFault 81 = .ok (.goto (-47), 3) := by decide +kernel
theorem dX6_firstFault_84 : decode cX6_firstFault 84 = .ok (.aload_n 0, 1) := by decide +kernel
theorem dX6_firstFault_85 : decode cX6_firstFault 85 = .ok (.getfield 18, 3) := by decide +kernel
theorem dX6_firstFault_88 : decode cX6_firstFault 88 = .ok (.aload_n 0, 1) := by decide +kernel
theorem dX6_firstFault_89 : decode cX6_firstFault 89 = .ok (.getfield 15, 3) := by decide +kernel
theorem dX6_firstFault_92 : decode cX6_firstFault 92 = .ok (.if_icmp .ge 10, 3) := by decide +kernel
theorem dX6_firstFault_95 : decode cX6_firstFault 95 = .ok (.aload_n 0, 1) := by decide +kernel
theorem dX6_firstFault_96 : decode cX6_firstFault 96 = .ok (.getfield 18, 3) := by decide +kernel
theorem dX6_firstFault_99 : decode cX6_firstFault 99 = .ok (.goto 4, 3) := by decide +kernel
theorem dX6_firstFault_102 : decode cX6_firstFault 102 = .ok (.iconst (-1), 1) := by decide +kernel
theorem dX6_firstFault_103 : decode cX6_firstFault 103 = .ok (.ireturn, 1) := by decide +kernel
theorem dX6_readJar_0 : decode cX6_readJar 0 = .ok (.aload_n 0, 1) := by decide +kernel
theorem dX6_readJar_1 : decode cX6_readJar 1 = .ok (.bipush 106, 2) := by decide +kernel
theorem dX6_readJar_3 : decode cX6_readJar 3 = .ok (.invokevirtual 36, 3) := by decide +kernel
theorem dX6_readJar_6 : decode cX6_readJar 6 = .ok (.ifCond .ne 5, 3) := by decide +kernel
theorem dX6_readJar_9 : decode cX6_readJar 9 = .ok (.iconst 0, 1) := by decide +kernel
theorem dX6_readJar_10 : decode cX6_readJar 10 = .ok (.ireturn, 1) := by decide +kernel
theorem dX6_readJar_11 : decode cX6_readJar 11 = .ok (.aload_n 0, 1) := by decide +kernel
theorem dX6_readJar_12 : decode cX6_readJar 12 = .ok (.bipush 99, 2) := by decide +kernel
theorem dX6_readJar_14 : decode cX6_readJar 14 = .ok (.invokevirtual 43, 3) := by decide +kernel
theorem dX6_readJar_17 : decode cX6_readJar 17 = .ok (.istore_n 1, 1) := by decide +kernel
theorem dX6_readJar_18 : decode cX6_readJar 18 = .ok (.iload_n 1, 1) := by decide +kernel
theorem dX6_readJar_19 : decode cX6_readJar 19 = .ok (.ifCond .lt 21, 3) := by decide +kernel
theorem dX6_readJar_22 : decode cX6_readJar 22 = .ok (.aload_n 0, 1) := by decide +kernel
theorem dX6_readJar_23 : decode cX6_readJar 23 = .ok (.bipush 59, 2) := by decide +kernel
theorem dX6_readJar_25 : decode cX6_readJar 25 = .ok (.invokevirtual 36, 3) := by decide +kernel
theorem dX6_readJar_28 : decode cX6_readJar 28 = .ok (.ifCond .eq 12, 3) := by decide +kernel
theorem dX6_readJar_31 : decode cX6_readJar 31 = .ok (.aload_n 0, 1) := by decide +kernel
theorem dX6_readJar_32 : decode cX6_readJar 32 = .ok (.bipush 108, 2) := by decide +kernel
theorem dX6_readJar_34 : decode cX6_readJar 34 = .ok (.invokevirtual 36, 3) := by decide +kernel
theorem dX6_readJar_37 : decode cX6_readJar 37 = .ok (.ifCond .ne 5, 3) := by decide +kernel
theorem dX6_readJar_40 : decode cX6_readJar 40 = .ok (.iconst 0, 1) := by decide +kernel
theorem dX6_readJar_41 : decode cX6_readJar 41 = .ok (.ireturn, 1) := by decide +kernel
theorem dX6_readJar_42 : decode cX6_readJar 42 = .ok (.aload_n 0, 1) := by decide +kernel
theorem dX6_readJar_43 : decode cX6_readJar 43 = .ok (.invokevirtual 47, 3) := by decide +kernel
theorem dX6_readJar_46 : decode cX6_readJar 46 = .ok (.istore_n 2, 1) := by decide +kernel
theorem dX6_readJar_47 : decode cX6_readJar 47 = .ok (.aload_n 0, 1) := by decide +kernel
theorem dX6_readJar_48 : decode cX6_readJar 48 = .ok (.getfield 28, 3) := by decide +kernel
theorem dX6_readJar_51 : decode cX6_readJar 51 = .ok (.iload_n 1, 1) := by decide +kernel
theorem dX6_readJar_52 : decode cX6_readJar 52 = .ok (.iload_n 2, 1) := by decide +kernel
theorem dX6_readJar_53 : decode cX6_readJar 53 = .ok (.invokevirtual 51, 3) := by decide +kernel
theorem dX6_readJar_56 : decode cX6_readJar 56 = .ok (.iload_n 2, 1) := by decide +kernel
theorem dX6_readJar_57 : decode cX6_readJar 57 = .ok (.ifCond .lt 7, 3) := by decide +kernel
theorem dX6_readJar_60 : decode cX6_readJar 60 = .ok (.iconst 1, 1) := by decide +kernel
theorem dX6_readJar_61 : decode cX6_readJar 61 = .ok (.goto 4, 3) := by decide +kernel
theorem dX6_readJar_64 : decode cX6_readJar 64 = .ok (.iconst 0, 1) := by decide +kernel
theorem dX6_readJar_65 : decode cX6_readJar 65 = .ok (.ireturn, 1) := by decide +kernel
theorem dX6_readSpeaker_0 : decode cX6_readSpeaker 0 = .ok (.aload_n 0, 1) := by decide +kernel
theorem dX6_readSpeaker_1 : decode cX6_readSpeaker 1 = .ok (.invokevirtual 57, 3) := by decide +kernel
theorem dX6_readSpeaker_4 : decode cX6_readSpeaker 4 = .ok (.istore_n 1, 1) := by decide +kernel
theorem dX6_readSpeaker_5 : decode cX6_readSpeaker 5 = .ok (.iload_n 1, 1) := by decide +kernel
theorem dX6_readSpeaker_6 : decode cX6_readSpeaker 6 = .ok (.ifCond .ge 13, 3) := by decide +kernel
theorem dX6_readSpeaker_9 : decode cX6_readSpeaker 9 = .ok (.aload_n 0, 1) := by decide +kernel
theorem dX6_readSpeaker_10 : decode cX6_readSpeaker 10 = .ok (.aload_n 0, 1) := by decide +kernel
theorem dX6_readSpeaker_11 : decode cX6_readSpeaker 11 = .ok (.getfield 18, 3) := by decide +kernel
theorem dX6_readSpeaker_14 : decode cX6_readSpeaker 14 = .ok (.putfield 21, 3) := by decide +kernel
theorem dX6_readSpeaker_17 : decode cX6_readSpeaker 17 = .ok (.iconst 0, 1) := by decide +kernel
theorem dX6_readSpeaker_18 : decode cX6_readSpeaker 18 = .ok (.ireturn, 1) := by decide +kernel
theorem dX6_readSpeaker_19 : decode cX6_readSpeaker 19 = .ok (.aload_n 0, 1) := by decide +kernel
theorem dX6_readSpeaker_20 : decode cX6_readSpeaker 20 = .ok (.dup, 1) := by decide +kernel
theorem dX6_readSpeaker_21 : decode cX6_readSpeaker 21 = .ok (.getfield 18, 3) := by decide +kernel
theorem dX6_readSpeaker_24 : decode cX6_readSpeaker 24 = .ok (.iconst 1, 1) := by decide +kernel
theorem dX6_readSpeaker_25 : decode cX6_readSpeaker 25 = .ok (.iadd, 1) := by decide +kernel
theorem dX6_readSpeaker_26 : decode cX6_readSpeaker 26 = .ok (.putfield 18, 3) := by decide +kernel
theorem dX6_readSpeaker_29 : decode cX6_readSpeaker 29 = .ok (.aload_n 0, 1) := by decide +kernel
theorem dX6_readSpeaker_30 : decode cX6_readSpeaker 30 = .ok (.getfield 28, 3) := by decide +kernel
theorem dX6_readSpeaker_33 : decode cX6_readSpeaker 33 = .ok (.iload_n 1, 1) := by decide +kernel
theorem dX6_readSpeaker_34 : decode cX6_readSpeaker 34 = .ok (.invokevirtual 60, 3) := by decide +kernel
theorem dX6_readSpeaker_37 : decode cX6_readSpeaker 37 = .ok (.iconst 0, 1) := by decide +kernel
theorem dX6_readSpeaker_38 : decode cX6_readSpeaker 38 = .ok (.istore_n 2, 1) := by decide +kernel
theorem dX6_readSpeaker_39 : decode cX6_readSpeaker 39 = .ok (.iload_n 2, 1) := by decide +kernel
theorem dX6_readSpeaker_40 : decode cX6_readSpeaker 40 = .ok (.iconst 3, 1) := by decide +kernel
theorem dX6_readSpeaker_41 : decode cX6_readSpeaker 41 = .ok (.if_icmp .ge 42, 3) := by decide +kernel
theorem dX6_readSpeaker_44 : decode cX6_readSpeaker 44 = .ok (.iload_n 2, 1) := by decide +kernel
theorem dX6_readSpeaker_45 : decode cX6_readSpeaker 45 = .ok (.ifCond .le 14, 3) := by decide +kernel
theorem dX6_readSpeaker_48 : decode cX6_readSpeaker 48 = .ok (.aload_n 0, 1) := by decide +kernel
theorem dX6_readSpeaker_49 : decode cX6_readSpeaker 49 = .ok (.bipush 119, 2) := by decide +kernel
theorem dX6_readSpeaker_51 : decode cX6_readSpeaker 51 = .ok (.invokevirtual 64, 3) := by decide +kernel
theorem dX6_readSpeaker_54 : decode cX6_readSpeaker 54 = .ok (.ifCond .ne 5, 3) := by decide +kernel
theorem dX6_readSpeaker_57 : decode cX6_readSpeaker 57 = .ok (.iconst 1, 1) := by decide +kernel
theorem dX6_readSpeaker_58 : decode cX6_readSpeaker 58 = .ok (.ireturn, 1) := by decide +kernel
theorem dX6_readSpeaker_59 : decode cX6_readSpeaker 59 = .ok (.aload_n 0, 1) := by decide +kernel
theorem dX6_readSpeaker_60 : decode cX6_readSpeaker 60 = .ok (.bipush 119, 2) := by decide +kernel
theorem dX6_readSpeaker_62 : decode cX6_readSpeaker 62 = .ok (.invokevirtual 36, 3) := by decide +kernel
theorem dX6_readSpeaker_65 : decode cX6_readSpeaker 65 = .ok (.ifCond .eq 10, 3) := by decide +kernel
theorem dX6_readSpeaker_68 : decode cX6_readSpeaker 68 = .ok (.aload_n 0, 1) := by decide +kernel
theorem dX6_readSpeaker_69 : decode cX6_readSpeaker 69 = .ok (.invokevirtual 67, 3) := by decide +kernel
theorem dX6_readSpeaker_72 : decode cX6_readSpeaker 72 = .ok (.ifCond .ne 5, 3) := by decide +kernel
theorem dX6_readSpeaker_75 : decode cX6_readSpeaker 75 = .ok (.iconst 0, 1) := by decide +kernel
theorem dX6_readSpeaker_76 : decode cX6_readSpeaker 76 = .ok (.ireturn, 1) := by decide +kernel
theorem dX6_readSpeaker_77 : decode cX6_readSpeaker 77 = .ok (.iinc 2 1, 3) := by decide +kernel
theorem dX6_readSpeaker_80 : decode cX6_readSpeaker 80 = .ok (.goto (-41), 3) := by decide +kernel
theorem dX6_readSpeaker_83 : decode cX6_readSpeaker 83 = .ok (.iconst 1, 1) := by decide +kernel
theorem dX6_readSpeaker_84 : decode cX6_readSpeaker 84 = .ok (.ireturn, 1) := by decide +kernel
theorem dX6_kindOfSign_0 : decode cX6_kindOfSign 0 = .ok (.aload_n 0, 1) := by decide +kernel
theorem dX6_kindOfSign_1 : decode cX6_kindOfSign 1 = .ok (.bipush 112, 2) := by decide +kernel
theorem dX6_kindOfSign_3 : decode cX6_kindOfSign 3 = .ok (.invokevirtual 64, 3) := by decide +kernel
theorem dX6_kindOfSign_6 : decode cX6_kindOfSign 6 = .ok (.ifCond .eq 5, 3) := by decide +kernel
theorem dX6_kindOfSign_9 : decode cX6_kindOfSign 9 = .ok (.iconst 0, 1) := by decide +kernel
theorem dX6_kindOfSign_10 : decode cX6_kindOfSign 10 = .ok (.ireturn, 1) := by decide +kernel
theorem dX6_kindOfSign_11 : decode cX6_kindOfSign 11 = .ok (.aload_n 0, 1) := by decide +kernel
theorem dX6_kindOfSign_12 : decode cX6_kindOfSign 12 = .ok (.bipush 116, 2) := by decide +kernel
theorem dX6_kindOfSign_14 : decode cX6_kindOfSign 14 = .ok (.invokevirtual 64, 3) := by decide +kernel
theorem dX6_kindOfSign_17 : decode cX6_kindOfSign 17 = .ok (.ifCond .eq 5, 3) := by decide +kernel
theorem dX6_kindOfSign_20 : decode cX6_kindOfSign 20 = .ok (.iconst 1, 1) := by decide +kernel
theorem dX6_kindOfSign_21 : decode cX6_kindOfSign 21 = .ok (.ireturn, 1) := by decide +kernel
theorem dX6_kindOfSign_22 : decode cX6_kindOfSign 22 = .ok (.aload_n 0, 1) := by decide +kernel
theorem dX6_kindOfSign_23 : decode cX6_kindOfSign 23 = .ok (.bipush 111, 2) := by decide +kernel
theorem dX6_kindOfSign_25 : decode cX6_kindOfSign 25 = .ok (.invokevirtual 64, 3) := by decide +kernel
theorem dX6_kindOfSign_28 : decode cX6_kindOfSign 28 = .ok (.ifCond .eq 7, 3) := by decide +kernel
theorem dX6_kindOfSign_31 : decode cX6_kindOfSign 31 = .ok (.iconst 2, 1) := by decide +kernel
theorem dX6_kindOfSign_32 : decode cX6_kindOfSign 32 = .ok (.goto 4, 3) := by decide +kernel
theorem dX6_kindOfSign_35 : decode cX6_kindOfSign 35 = .ok (.iconst (-1), 1) := by decide +kernel
theorem dX6_kindOfSign_36 : decode cX6_kindOfSign 36 = .ok (.ireturn, 1) := by decide +kernel
theorem dX6_readWord_0 : decode cX6_readWord 0 = .ok (.aload_n 0, 1) := by decide +kernel
theorem dX6_readWord_1 : decode cX6_readWord 1 = .ok (.bipush 60, 2) := by decide +kernel
theorem dX6_readWord_3 : decode cX6_readWord 3 = .ok (.invokevirtual 43, 3) := by decide +kernel
theorem dX6_readWord_6 : decode cX6_readWord 6 = .ok (.istore_n 1, 1) := by decide +kernel
theorem dX6_readWord_7 : decode cX6_readWord 7 = .ok (.iload_n 1, 1) := by decide +kernel
theorem dX6_readWord_8 : decode cX6_readWord 8 = .ok (.ifCond .ge 5, 3) := by decide +kernel
theorem dX6_readWord_11 : decode cX6_readWord 11 = .ok (.iconst 0, 1) := by decide +kernel
theorem dX6_readWord_12 : decode cX6_readWord 12 = .ok (.ireturn, 1) := by decide +kernel
theorem dX6_readWord_13 : decode cX6_readWord 13 = .ok (.aload_n 0, 1) := by decide +kernel
theorem dX6_readWord_14 : decode cX6_readWord 14 = .ok (.invokevirtual 47, 3) := by decide +kernel
theorem dX6_readWord_17 : decode cX6_readWord 17 = .ok (.istore_n 2, 1) := by decide +kernel
theorem dX6_readWord_18 : decode cX6_readWord 18 = .ok (.iload_n 2, 1) := by decide +kernel
theorem dX6_readWord_19 : decode cX6_readWord 19 = .ok (.ifCond .ge 5, 3) := by decide +kernel
theorem dX6_readWord_22 : decode cX6_readWord 22 = .ok (.iconst 0, 1) := by decide +kernel
theorem dX6_readWord_23 : decode cX6_readWord 23 = .ok (.ireturn, 1) := by decide +kernel
theorem dX6_readWord_24 : decode cX6_readWord 24 = .ok (.aload_n 0, 1) := by decide +kernel
theorem dX6_readWord_25 : decode cX6_readWord 25 = .ok (.invokevirtual 47, 3) := by decide +kernel
theorem dX6_readWord_28 : decode cX6_readWord 28 = .ok (.istore_n 3, 1) := by decide +kernel
theorem dX6_readWord_29 : decode cX6_readWord 29 = .ok (.aload_n 0, 1) := by decide +kernel
theorem dX6_readWord_30 : decode cX6_readWord 30 = .ok (.getfield 28, 3) := by decide +kernel
theorem dX6_readWord_33 : decode cX6_readWord 33 = .ok (.iload_n 1, 1) := by decide +kernel
theorem dX6_readWord_34 : decode cX6_readWord 34 = .ok (.iload_n 2, 1) := by decide +kernel
theorem dX6_readWord_35 : decode cX6_readWord 35 = .ok (.iload_n 3, 1) := by decide +kernel
theorem dX6_readWord_36 : decode cX6_readWord 36 = .ok (.invokevirtual 70, 3) := by decide +kernel
theorem dX6_readWord_39 : decode cX6_readWord 39 = .ok (.iload_n 3, 1) := by decide +kernel
theorem dX6_readWord_40 : decode cX6_readWord 40 = .ok (.ifCond .lt 7, 3) := by decide +kernel
theorem dX6_readWord_43 : decode cX6_readWord 43 = .ok (.iconst 1, 1) := by decide +kernel
theorem dX6_readWord_44 : decode cX6_readWord 44 = .ok (.goto 4, 3) := by decide +kernel
theorem dX6_readWord_47 : decode cX6_readWord 47 = .ok (.iconst 0, 1) := by decide +kernel
theorem dX6_readWord_48 : decode cX6_readWord 48 = .ok (.ireturn, 1) := by decide +kernel
theorem dX6_readNumber_0 : decode cX6_readNumber 0 = .ok (.aload_n 0, 1) := by decide +kernel
theorem dX6_readNumber_1 : decode cX6_readNumber 1 = .ok (.getfield 18, 3) := by decide +kernel
theorem dX6_readNumber_4 : decode cX6_readNumber 4 = .ok (.istore_n 2, 1) := by decide +kernel
theorem dX6_readNumber_5 : decode cX6_readNumber 5 = .ok (.aload_n 0, 1) := by decide +kernel
theorem dX6_readNumber_6 : decode cX6_readNumber 6 = .ok (.invokevirtual 47, 3) := by decide +kernel
theorem dX6_readNumber_9 : decode cX6_readNumber 9 = .ok (.istore_n 3, 1) := by decide +kernel
theorem dX6_readNumber_10 : decode cX6_readNumber 10 = .ok (.iload_n 3, 1) := by decide +kernel
theorem dX6_readNumber_11 : decode cX6_readNumber 11 = .ok (.ifCond .ge 5, 3) := by decide +kernel
theorem dX6_readNumber_14 : decode cX6_readNumber 14 = .ok (.iconst (-1), 1) := by decide +kernel
theorem dX6_readNumber_15 : decode cX6_readNumber 15 = .ok (.ireturn, 1) := by decide +kernel
theorem dX6_readNumber_16 : decode cX6_readNumber 16 = .ok (.iload_n 3, 1) := by decide +kernel
theorem dX6_readNumber_17 : decode cX6_readNumber 17 = .ok (.iload_n 1, 1) := by decide +kernel
theorem dX6_readNumber_18 : decode cX6_readNumber 18 = .ok (.bipush 10, 2) := by decide +kernel
theorem dX6_readNumber_20 : decode cX6_readNumber 20 = .ok (.idiv, 1) := by decide +kernel
theorem dX6_readNumber_21 : decode cX6_readNumber 21 = .ok (.if_icmp .le 10, 3) := by decide +kernel
theorem dX6_readNumber_24 : decode cX6_readNumber 24 = .ok (.aload_n 0, 1) := by decide +kernel
theorem dX6_readNumber_25 : decode cX6_readNumber 25 = .ok (.iload_n 2, 1) := by decide +kernel
theorem dX6_readNumber_26 : decode cX6_readNumber 26 = .ok (.putfield 21, 3) := by decide +kernel
theorem dX6_readNumber_29 : decode cX6_readNumber 29 = .ok (.iconst (-1), 1) := by decide +kernel
theorem dX6_readNumber_30 : decode cX6_readNumber 30 = .ok (.ireturn, 1) := by decide +kernel
theorem dX6_readNumber_31 : decode cX6_readNumber 31 = .ok (.aload_n 0, 1) := by decide +kernel
theorem dX6_readNumber_32 : decode cX6_readNumber 32 = .ok (.invokevirtual 47, 3) := by decide +kernel
theorem dX6_readNumber_35 : decode cX6_readNumber 35 = .ok (.istore 4, 2) := by decide +kernel
theorem dX6_readNumber_37 : decode cX6_readNumber 37 = .ok (.iload 4, 2) := by decide +kernel
theorem dX6_readNumber_39 : decode cX6_readNumber 39 = .ok (.ifCond .ge 5, 3) := by decide +kernel
theorem dX6_readNumber_42 : decode cX6_readNumber 42 = .ok (.iconst (-1), 1) := by decide +kernel
theorem dX6_readNumber_43 : decode cX6_readNumber 43 = .ok (.ireturn, 1) := by decide +kernel
theorem dX6_readNumber_44 : decode cX6_readNumber 44 = .ok (.bipush 10, 2) := by decide +kernel
theorem dX6_readNumber_46 : decode cX6_readNumber 46 = .ok (.iload_n 3, 1) := by decide +kernel
theorem dX6_readNumber_47 : decode cX6_readNumber 47 = .ok (.imul, 1) := by decide +kernel
theorem dX6_readNumber_48 : decode cX6_readNumber 48 = .ok (.iload 4, 2) := by decide +kernel
theorem dX6_readNumber_50 : decode cX6_readNumber 50 = .ok (.iadd, 1) := by decide +kernel
theorem dX6_readNumber_51 : decode cX6_readNumber 51 = .ok (.istore 5, 2) := by decide +kernel
theorem dX6_readNumber_53 : decode cX6_readNumber 53 = .ok (.iload 5, 2) := by decide +kernel
theorem dX6_readNumber_55 : decode cX6_readNumber 55 = .ok (.iconst 1, 1) := by decide +kernel
theorem dX6_readNumber_56 : decode cX6_readNumber 56 = .ok (.if_icmp .lt 9, 3) := by decide +kernel
theorem dX6_readNumber_59 : decode cX6_readNumber 59 = .ok (.iload 5, 2) := by decide +kernel
theorem dX6_readNumber_61 : decode cX6_readNumber 61 = .ok (.iload_n 1, 1) := by decide +kernel
theorem dX6_readNumber_62 : decode cX6_readNumber 62 = .ok (.if_icmp .le 10, 3) := by decide +kernel
theorem dX6_readNumber_65 : decode cX6_readNumber 65 = .ok (.aload_n 0, 1) := by decide +kernel
theorem dX6_readNumber_66 : decode cX6_readNumber 66 = .ok (.iload_n 2, 1) := by decide +kernel
theorem dX6_readNumber_67 : decode cX6_readNumber 67 = .ok (.putfield 21, 3) := by decide +kernel
theorem dX6_readNumber_70 : decode cX6_readNumber 70 = .ok (.iconst (-1), 1) := by decide +kernel
theorem dX6_readNumber_71 : decode cX6_readNumber 71 = .ok (.ireturn, 1) := by decide +kernel
theorem dX6_readNumber_72 : decode cX6_readNumber 72 = .ok (.iload 5, 2) := by decide +kernel
theorem dX6_readNumber_74 : decode cX6_readNumber 74 = .ok (.ireturn, 1) := by decide +kernel
theorem dX6_readDigit_0 : decode cX6_readDigit 0 = .ok (.aload_n 0, 1) := by decide +kernel
theorem dX6_readDigit_1 : decode cX6_readDigit 1 = .ok (.getfield 24, 3) := by decide +kernel
theorem dX6_readDigit_4 : decode cX6_readDigit 4 = .ok (.aload_n 0, 1) := by decide +kernel
theorem dX6_readDigit_5 : decode cX6_readDigit 5 = .ok (.getfield 9, 3) := by decide +kernel
theorem dX6_readDigit_8 : decode cX6_readDigit 8 = .ok (.aload_n 0, 1) := by decide +kernel
theorem dX6_readDigit_9 : decode cX6_readDigit 9 = .ok (.getfield 18, 3) := by decide +kernel
theorem dX6_readDigit_12 : decode cX6_readDigit 12 = .ok (.iadd, 1) := by decide +kernel
theorem dX6_readDigit_13 : decode cX6_readDigit 13 = .ok (.invokestatic 74, 3) := by decide +kernel
theorem dX6_readDigit_16 : decode cX6_readDigit 16 = .ok (.istore_n 1, 1) := by decide +kernel
theorem dX6_readDigit_17 : decode cX6_readDigit 17 = .ok (.aload_n 0, 1) := by decide +kernel
theorem dX6_readDigit_18 : decode cX6_readDigit 18 = .ok (.getfield 18, 3) := by decide +kernel
theorem dX6_readDigit_21 : decode cX6_readDigit 21 = .ok (.aload_n 0, 1) := by decide +kernel
theorem dX6_readDigit_22 : decode cX6_readDigit 22 = .ok (.getfield 15, 3) := by decide +kernel
theorem dX6_readDigit_25 : decode cX6_readDigit 25 = .ok (.if_icmp .ge 15, 3) := by decide +kernel
theorem dX6_readDigit_28 : decode cX6_readDigit 28 = .ok (.iload_n 1, 1) := by decide +kernel
theorem dX6_readDigit_29 : decode cX6_readDigit 29 = .ok (.bipush 48, 2) := by decide +kernel
theorem dX6_readDigit_31 : decode cX6_readDigit 31 = .ok (.if_icmp .lt 9, 3) := by decide +kernel
theorem dX6_readDigit_34 : decode cX6_readDigit 34 = .ok (.iload_n 1, 1) := by decide +kernel
theorem dX6_readDigit_35 : decode cX6_readDigit 35 = .ok (.bipush 57, 2) := by decide +kernel
theorem dX6_readDigit_37 : decode cX6_readDigit 37 = .ok (.if_icmp .le 13, 3) := by decide +kernel
theorem dX6_readDigit_40 : decode cX6_readDigit 40 = .ok (.aload_n 0, 1) := by decide +kernel
theorem dX6_readDigit_41 : decode cX6_readDigit 41 = .ok (.aload_n 0, 1) := by decide +kernel
theorem dX6_readDigit_42 : decode cX6_readDigit 42 = .ok (.getfield 18, 3) := by decide +kernel
theorem dX6_readDigit_45 : decode cX6_readDigit 45 = .ok (.putfield 21, 3) := by decide +kernel
theorem dX6_readDigit_48 : decode cX6_readDigit 48 = .ok (.iconst (-1), 1) := by decide +kernel
theorem dX6_readDigit_49 : decode cX6_readDigit 49 = .ok (.ireturn, 1) := by decide +kernel
theorem dX6_readDigit_50 : decode cX6_readDigit 50 = .ok (.aload_n 0, 1) := by decide +kernel
theorem dX6_readDigit_51 : decode cX6_readDigit 51 = .ok (.dup, 1) := by decide +kernel
theorem dX6_readDigit_52 : decode cX6_readDigit 52 = .ok (.getfield 18, 3) := by decide +kernel
theorem dX6_readDigit_55 : decode cX6_readDigit 55 = .ok (.iconst 1, 1) := by decide +kernel
theorem dX6_readDigit_56 : decode cX6_readDigit 56 = .ok (.iadd, 1) := by decide +kernel
theorem dX6_readDigit_57 : decode cX6_readDigit 57 = .ok (.putfield 18, 3) := by decide +kernel
theorem dX6_readDigit_60 : decode cX6_readDigit 60 = .ok (.iload_n 1, 1) := by decide +kernel
theorem dX6_readDigit_61 : decode cX6_readDigit 61 = .ok (.bipush 48, 2) := by decide +kernel
theorem dX6_readDigit_63 : decode cX6_readDigit 63 = .ok (.isub, 1) := by decide +kernel
theorem dX6_readDigit_64 : decode cX6_readDigit 64 = .ok (.ireturn, 1) := by decide +kernel
theorem dX6_readSign_0 : decode cX6_readSign 0 = .ok (.aload_n 0, 1) := by decide +kernel
theorem dX6_readSign_1 : decode cX6_readSign 1 = .ok (.iload_n 1, 1) := by decide +kernel
theorem dX6_readSign_2 : decode cX6_readSign 2 = .ok (.invokevirtual 64, 3) := by decide +kernel
theorem dX6_readSign_5 : decode cX6_readSign 5 = .ok (.ifCond .ne 13, 3) := by decide +kernel
theorem dX6_readSign_8 : decode cX6_readSign 8 = .ok (.aload_n 0, 1) := by decide +kernel
theorem dX6_readSign_9 : decode cX6_readSign 9 = .ok (.aload_n 0, 1) := by decide +kernel
theorem dX6_readSign_10 : decode cX6_readSign 10 = .ok (.getfield 18, 3) := by decide +kernel
theorem dX6_readSign_13 : decode cX6_readSign 13 = .ok (.putfield 21, 3) := by decide +kernel
theorem dX6_readSign_16 : decode cX6_readSign 16 = .ok (.iconst 0, 1) := by decide +kernel
theorem dX6_readSign_17 : decode cX6_readSign 17 = .ok (.ireturn, 1) := by decide +kernel
theorem dX6_readSign_18 : decode cX6_readSign 18 = .ok (.aload_n 0, 1) := by decide +kernel
theorem dX6_readSign_19 : decode cX6_readSign 19 = .ok (.dup, 1) := by decide +kernel
theorem dX6_readSign_20 : decode cX6_readSign 20 = .ok (.getfield 18, 3) := by decide +kernel
theorem dX6_readSign_23 : decode cX6_readSign 23 = .ok (.iconst 1, 1) := by decide +kernel
theorem dX6_readSign_24 : decode cX6_readSign 24 = .ok (.iadd, 1) := by decide +kernel
theorem dX6_readSign_25 : decode cX6_readSign 25 = .ok (.putfield 18, 3) := by decide +kernel
theorem dX6_readSign_28 : decode cX6_readSign 28 = .ok (.iconst 1, 1) := by decide +kernel
theorem dX6_readSign_29 : decode cX6_readSign 29 = .ok (.ireturn, 1) := by decide +kernel
theorem dX6_isNext_0 : decode cX6_isNext 0 = .ok (.aload_n 0, 1) := by decide +kernel
theorem dX6_isNext_1 : decode cX6_isNext 1 = .ok (.getfield 18, 3) := by decide +kernel
theorem dX6_isNext_4 : decode cX6_isNext 4 = .ok (.aload_n 0, 1) := by decide +kernel
theorem dX6_isNext_5 : decode cX6_isNext 5 = .ok (.getfield 15, 3) := by decide +kernel
theorem dX6_isNext_8 : decode cX6_isNext 8 = .ok (.if_icmp .ge 27, 3) := by decide +kernel
theorem dX6_isNext_11 : decode cX6_isNext 11 = .ok (.aload_n 0, 1) := by decide +kernel
theorem dX6_isNext_12 : decode cX6_isNext 12 = .ok (.getfield 24, 3) := by decide +kernel
theorem dX6_isNext_15 : decode cX6_isNext 15 = .ok (.aload_n 0, 1) := by decide +kernel
theorem dX6_isNext_16 : decode cX6_isNext 16 = .ok (.getfield 9, 3) := by decide +kernel
theorem dX6_isNext_19 : decode cX6_isNext 19 = .ok (.aload_n 0, 1) := by decide +kernel
theorem dX6_isNext_20 : decode cX6_isNext 20 = .ok (.getfield 18, 3) := by decide +kernel
theorem dX6_isNext_23 : decode cX6_isNext 23 = .ok (.iadd, 1) := by decide +kernel
theorem dX6_isNext_24 : decode cX6_isNext 24 = .ok (.invokestatic 74, 3) := by decide +kernel
theorem dX6_isNext_27 : decode cX6_isNext 27 = .ok (.iload_n 1, 1) := by decide +kernel
theorem dX6_isNext_28 : decode cX6_isNext 28 = .ok (.if_icmp .ne 7, 3) := by decide +kernel
theorem dX6_isNext_31 : decode cX6_isNext 31 = .ok (.iconst 1, 1) := by decide +kernel
theorem dX6_isNext_32 : decode cX6_isNext 32 = .ok (.goto 4, 3) := by decide +kernel
theorem dX6_isNext_35 : decode cX6_isNext 35 = .ok (.iconst 0, 1) := by decide +kernel
theorem dX6_isNext_36 : decode cX6_isNext 36 = .ok (.ireturn, 1) := by decide +kernel
theorem dX7_init_0 : decode cX7_init 0 = .ok (.aload_n 0, 1) := by decide +kernel
theorem dX7_init_1 : decode cX7_init 1 = .ok (.invokespecial 3, 3) := by decide +kernel
theorem dX7_init_4 : decode cX7_init 4 = .ok (.aload_n 0, 1) := by decide +kernel
theorem dX7_init_5 : decode cX7_init 5 = .ok (.iconst 4, 1) := by decide +kernel
theorem dX7_init_6 : decode cX7_init 6 = .ok (.newarray .int, 2) := by decide +kernel
theorem dX7_init_8 : decode cX7_init 8 = .ok (.putfield 11, 3) := by decide +kernel
theorem dX7_init_11 : decode cX7_init 11 = .ok (.aload_n 0, 1) := by decide +kernel
theorem dX7_init_12 : decode cX7_init 12 = .ok (.iconst 4, 1) := by decide +kernel
theorem dX7_init_13 : decode cX7_init 13 = .ok (.newarray .int, 2) := by decide +kernel
theorem dX7_init_15 : decode cX7_init 15 = .ok (.putfield 15, 3) := by decide +kernel
theorem dX7_init_18 : decode cX7_init 18 = .ok (.aload_n 0, 1) := by decide +kernel
theorem dX7_init_19 : decode cX7_init 19 = .ok (.sipush 400, 3) := by decide +kernel
theorem dX7_init_22 : decode cX7_init 22 = .ok (.newarray .int, 2) := by decide +kernel
theorem dX7_init_24 : decode cX7_init 24 = .ok (.putfield 18, 3) := by decide +kernel
theorem dX7_init_27 : decode cX7_init 27 = .ok (.iconst 0, 1) := by decide +kernel
theorem dX7_init_28 : decode cX7_init 28 = .ok (.istore_n 1, 1) := by decide +kernel
theorem dX7_init_29 : decode cX7_init 29 = .ok (.iload_n 1, 1) := by decide +kernel
theorem dX7_init_30 : decode cX7_init 30 = .ok (.iconst 4, 1) := by decide +kernel
theorem dX7_init_31 : decode cX7_init 31 = .ok (.if_icmp .ge 18, 3) := by decide +kernel
theorem dX7_init_34 : decode cX7_init 34 = .ok (.aload_n 0, 1) := by decide +kernel
theorem dX7_init_35 : decode cX7_init 35 = .ok (.getfield 11, 3) := by decide +kernel
theorem dX7_init_38 : decode cX7_init 38 = .ok (.iload_n 1, 1) := by decide +kernel
theorem dX7_init_39 : decode cX7_init 39 = .ok (.iconst (-1), 1) := by decide +kernel
theorem dX7_init_40 : decode cX7_init 40 = .ok (.invokestatic 21, 3) := by decide +kernel
theorem dX7_init_43 : decode cX7_init 43 = .ok (.iinc 1 1, 3) := by decide +kernel
theorem dX7_init_46 : decode cX7_init 46 = .ok (.goto (-17), 3) := by decide +kernel
theorem dX7_init_49 : decode cX7_init 49 = .ok (.return_, 1) := by decide +kernel
theorem dX7_isSheet_0 : decode cX7_isSheet 0 = .ok (.iload_n 0, 1) := by decide +kernel
theorem dX7_isSheet_1 : decode cX7_isSheet 1 = .ok (.ifCond .lt 12, 3) := by decide +kernel
theorem dX7_isSheet_4 : decode cX7_isSheet 4 = .ok (.iload_n 0, 1) := by decide +kernel
theorem dX7_isSheet_5 : decode cX7_isSheet 5 = .ok (.iconst 4, 1) := by decide +kernel
theorem dX7_isSheet_6 : decode cX7_isSheet 6 = .ok (.if_icmp .ge 7, 3) := by decide +kernel
theorem dX7_isSheet_9 : decode cX7_isSheet 9 = .ok (.iconst 1, 1) := by decide +kernel
theorem dX7_isSheet_10 : decode cX7_isSheet 10 = .ok (.goto 4, 3) := by decide +kernel
theorem dX7_isSheet_13 : decode cX7_isSheet 13 = .ok (.iconst 0, 1) := by decide +kernel
theorem dX7_isSheet_14 : decode cX7_isSheet 14 = .ok (.ireturn, 1) := by decide +kernel
theorem dX7_isLane_0 : decode cX7_isLane 0 = .ok (.iload_n 0, 1) := by decide +kernel
theorem dX7_isLane_1 : decode cX7_isLane 1 = .ok (.ifCond .lt 12, 3) := by decide +kernel
theorem dX7_isLane_4 : decode cX7_isLane 4 = .ok (.iload_n 0, 1) := by decide +kernel
theorem dX7_isLane_5 : decode cX7_isLane 5 = .ok (.iconst 3, 1) := by decide +kernel
theorem dX7_isLane_6 : decode cX7_isLane 6 = .ok (.if_icmp .ge 7, 3) := by decide +kernel
theorem dX7_isLane_9 : decode cX7_isLane 9 = .ok (.iconst 1, 1) := by decide +kernel
theorem dX7_isLane_10 : decode cX7_isLane 10 = .ok (.goto 4, 3) := by decide +kernel
theorem dX7_isLane_13 : decode cX7_isLane 13 = .ok (.iconst 0, 1) := by decide +kernel
theorem dX7_isLane_14 : decode cX7_isLane 14 = .ok (.ireturn, 1) := by decide +kernel
theorem dX7_laneOf_0 : decode cX7_laneOf 0 = .ok (.aload_n 0, 1) := by decide +kernel
theorem dX7_laneOf_1 : decode cX7_laneOf 1 = .ok (.getfield 11, 3) := by decide +kernel
theorem dX7_laneOf_4 : decode cX7_laneOf 4 = .ok (.iload_n 1, 1) := by decide +kernel
theorem dX7_laneOf_5 : decode cX7_laneOf 5 = .ok (.invokestatic 25, 3) := by decide +kernel
theorem dX7_laneOf_8 : decode cX7_laneOf 8 = .ok (.ireturn, 1) := by decide +kernel
theorem dX7_sizeOf_0 : decode cX7_sizeOf 0 = .ok (.aload_n 0, 1) := by decide +kernel
theorem dX7_sizeOf_1 : decode cX7_sizeOf 1 = .ok (.getfield 15, 3) := by decide +kernel
theorem dX7_sizeOf_4 : decode cX7_sizeOf 4 = .ok (.iload_n 1, 1) := by decide +kernel
theorem dX7_sizeOf_5 : decode cX7_sizeOf 5 = .ok (.invokestatic 25, 3) := by decide +kernel
theorem dX7_sizeOf_8 : decode cX7_sizeOf 8 = .ok (.ireturn, 1) := by decide +kernel
theorem dX7_isEmpty_0 : decode cX7_isEmpty 0 = .ok (.aload_n 0, 1) := by decide +kernel
theorem dX7_isEmpty_1 : decode cX7_isEmpty 1 = .ok (.iload_n 1, 1) := by decide +kernel
theorem dX7_isEmpty_2 : decode cX7_isEmpty 2 = .ok (.invokevirtual 29, 3) := by decide +kernel
theorem dX7_isEmpty_5 : decode cX7_isEmpty 5 = .ok (.iconst (-1), 1) := by decide +kernel
theorem dX7_isEmpty_6 : decode cX7_isEmpty 6 = .ok (.if_icmp .ne 7, 3) := by decide +kernel
theorem dX7_isEmpty_9 : decode cX7_isEmpty 9 = .ok (.iconst 1, 1) := by decide +kernel
theorem dX7_isEmpty_10 : decode cX7_isEmpty 10 = .ok (.goto 4, 3) := by decide +kernel
theorem dX7_isEmpty_13 : decode cX7_isEmpty 13 = .ok (.iconst 0, 1) := by decide +kernel
theorem dX7_isEmpty_14 : decode cX7_isEmpty 14 = .ok (.ireturn, 1) := by decide +kernel
theorem dX7_placeOf_0 : decode cX7_placeOf 0 = .ok (.iload_n 0, 1) := by decide +kernel
theorem dX7_placeOf_1 : decode cX7_placeOf 1 = .ok (.bipush 100, 2) := by decide +kernel
theorem dX7_placeOf_3 : decode cX7_placeOf 3 = .ok (.imul, 1) := by decide +kernel
theorem dX7_placeOf_4 : decode cX7_placeOf 4 = .ok (.iload_n 1, 1) := by decide +kernel
theorem dX7_placeOf_5 : decode cX7_placeOf 5 = .ok (.iadd, 1) := by decide +kernel
theorem dX7_placeOf_6 : decode cX7_placeOf 6 = .ok (.ireturn, 1) := by decide +kernel
theorem dX7_valueAt_0 : decode cX7_valueAt 0 = .ok (.aload_n 0, 1) := by decide +kernel
theorem dX7_valueAt_1 : decode cX7_valueAt 1 = .ok (.getfield 18, 3) := by decide +kernel
theorem dX7_valueAt_4 : decode cX7_valueAt 4 = .ok (.iload_n 1, 1) := by decide +kernel
theorem dX7_valueAt_5 : decode cX7_valueAt 5 = .ok (.iload_n 2, 1) := by decide +kernel
theorem dX7_valueAt_6 : decode cX7_valueAt 6 = .ok (.invokestatic 33, 3) := by decide +kernel
theorem dX7_valueAt_9 : decode cX7_valueAt 9 = .ok (.invokestatic 25, 3) := by decide +kernel
theorem dX7_valueAt_12 : decode cX7_valueAt 12 = .ok (.ireturn, 1) := by decide +kernel
theorem dX7_renew_0 : decode cX7_renew 0 = .ok (.aload_n 0, 1) := by decide +kernel
theorem dX7_renew_1 : decode cX7_renew 1 = .ok (.getfield 11, 3) := by decide +kernel
theorem dX7_renew_4 : decode cX7_renew 4 = .ok (.iload_n 1, 1) := by decide +kernel
theorem dX7_renew_5 : decode cX7_renew 5 = .ok (.iload_n 2, 1) := by decide +kernel
theorem dX7_renew_6 : decode cX7_renew 6 = .ok (.invokestatic 21, 3) := by decide +kernel
theorem dX7_renew_9 : decode cX7_renew 9 = .ok (.aload_n 0, 1) := by decide +kernel
theorem dX7_renew_10 : decode cX7_renew 10 = .ok (.getfield 15, 3) := by decide +kernel
theorem dX7_renew_13 : decode cX7_renew 13 = .ok (.iload_n 1, 1) := by decide +kernel
theorem dX7_renew_14 : decode cX7_renew 14 = .ok (.iload_n 3, 1) := by decide +kernel
theorem dX7_renew_15 : decode cX7_renew 15 = .ok (.invokestatic 21, 3) := by decide +kernel
theorem dX7_renew_18 : decode cX7_renew 18 = .ok (.iconst 0, 1) := by decide +kernel
theorem dX7_renew_19 : decode cX7_renew 19 = .ok (.istore 4, 2) := by decide +kernel
theorem dX7_renew_21 : decode cX7_renew 21 = .ok (.iload 4, 2) := by decide +kernel
theorem dX7_renew_23 : decode cX7_renew 23 = .ok (.bipush 100, 2) := by decide +kernel
theorem dX7_renew_25 : decode cX7_renew 25 = .ok (.if_icmp .ge 23, 3) := by decide +kernel
theorem dX7_renew_28 : decode cX7_renew 28 = .ok (.aload_n 0, 1) := by decide +kernel
theorem dX7_renew_29 : decode cX7_renew 29 = .ok (.getfield 18, 3) := by decide +kernel
theorem dX7_renew_32 : decode cX7_renew 32 = .ok (.iload_n 1, 1) := by decide +kernel
theorem dX7_renew_33 : decode cX7_renew 33 = .ok (.iload 4, 2) := by decide +kernel
theorem dX7_renew_35 : decode cX7_renew 35 = .ok (.invokestatic 33, 3) := by decide +kernel
theorem dX7_renew_38 : decode cX7_renew 38 = .ok (.iconst 0, 1) := by decide +kernel
theorem dX7_renew_39 : decode cX7_renew 39 = .ok (.invokestatic 21, 3) := by decide +kernel
theorem dX7_renew_42 : decode cX7_renew 42 = .ok (.iinc 4 1, 3) := by decide +kernel
theorem dX7_renew_45 : decode cX7_renew 45 = .ok (.goto (-24), 3) := by decide +kernel
theorem dX7_renew_48 : decode cX7_renew 48 = .ok (.return_, 1) := by decide +kernel
theorem dX7_store_0 : decode cX7_store 0 = .ok (.aload_n 0, 1) := by decide +kernel
theorem dX7_store_1 : decode cX7_store 1 = .ok (.getfield 18, 3) := by decide +kernel
theorem dX7_store_4 : decode cX7_store 4 = .ok (.iload_n 1, 1) := by decide +kernel
theorem dX7_store_5 : decode cX7_store 5 = .ok (.iload_n 2, 1) := by decide +kernel
theorem dX7_store_6 : decode cX7_store 6 = .ok (.invokestatic 33, 3) := by decide +kernel
theorem dX7_store_9 : decode cX7_store 9 = .ok (.aload_n 0, 1) := by decide +kernel
theorem dX7_store_10 : decode cX7_store 10 = .ok (.iload_n 1, 1) := by decide +kernel
theorem dX7_store_11 : decode cX7_store 11 = .ok (.invokevirtual 29, 3) := by decide +kernel
theorem dX7_store_14 : decode cX7_store 14 = .ok (.iload_n 3, 1) := by decide +kernel
theorem dX7_store_15 : decode cX7_store 15 = .ok (.invokestatic 41, 3) := by decide +kernel
theorem dX7_store_18 : decode cX7_store 18 = .ok (.invokestatic 21, 3) := by decide +kernel
theorem dX7_store_21 : decode cX7_store 21 = .ok (.return_, 1) := by decide +kernel
theorem dX7_cutTo_0 : decode cX7_cutTo 0 = .ok (.iload_n 0, 1) := by decide +kernel
theorem dX7_cutTo_1 : decode cX7_cutTo 1 = .ok (.ifCond .ne 6, 3) := by decide +kernel
theorem dX7_cutTo_4 : decode cX7_cutTo 4 = .ok (.iload_n 1, 1) := by decide +kernel
theorem dX7_cutTo_5 : decode cX7_cutTo 5 = .ok (.i2b, 1) := by decide +kernel
theorem dX7_cutTo_6 : decode cX7_cutTo 6 = .ok (.ireturn, 1) := by decide +kernel
theorem dX7_cutTo_7 : decode cX7_cutTo 7 = .ok (.iload_n 0, 1) := by decide +kernel
theorem dX7_cutTo_8 : decode cX7_cutTo 8 = .ok (.iconst 1, 1) := by decide +kernel
theorem dX7_cutTo_9 : decode cX7_cutTo 9 = .ok (.if_icmp .ne 8, 3) := by decide +kernel
theorem dX7_cutTo_12 : decode cX7_cutTo 12 = .ok (.iload_n 1, 1) := by decide +kernel
theorem dX7_cutTo_13 : decode cX7_cutTo 13 = .ok (.i2s, 1) := by decide +kernel
theorem dX7_cutTo_14 : decode cX7_cutTo 14 = .ok (.goto 4, 3) := by decide +kernel
theorem dX7_cutTo_17 : decode cX7_cutTo 17 = .ok (.iload_n 1, 1) := by decide +kernel
theorem dX7_cutTo_18 : decode cX7_cutTo 18 = .ok (.ireturn, 1) := by decide +kernel
theorem dX7_hasPart_0 : decode cX7_hasPart 0 = .ok (.iload_n 2, 1) := by decide +kernel
theorem dX7_hasPart_1 : decode cX7_hasPart 1 = .ok (.ifCond .lt 27, 3) := by decide +kernel
theorem dX7_hasPart_4 : decode cX7_hasPart 4 = .ok (.iload_n 2, 1) := by decide +kernel
theorem dX7_hasPart_5 : decode cX7_hasPart 5 = .ok (.aload_n 0, 1) := by decide +kernel
theorem dX7_hasPart_6 : decode cX7_hasPart 6 = .ok (.iload_n 1, 1) := by decide +kernel
theorem dX7_hasPart_7 : decode cX7_hasPart 7 = .ok (.invokevirtual 47, 3) := by decide +kernel
theorem dX7_hasPart_10 : decode cX7_hasPart 10 = .ok (.if_icmp .gt 18, 3) := by decide +kernel
theorem dX7_hasPart_13 : decode cX7_hasPart 13 = .ok (.iload_n 3, 1) := by decide +kernel
theorem dX7_hasPart_14 : decode cX7_hasPart 14 = .ok (.aload_n 0, 1) := by decide +kernel
theorem dX7_hasPart_15 : decode cX7_hasPart 15 = .ok (.iload_n 1, 1) := by decide +kernel
theorem dX7_hasPart_16 : decode cX7_hasPart 16 = .ok (.invokevirtual 47, 3) := by decide +kernel
theorem dX7_hasPart_19 : decode cX7_hasPart 19 = .ok (.iload_n 2, 1) := by decide +kernel
theorem dX7_hasPart_20 : decode cX7_hasPart 20 = .ok (.isub, 1) := by decide +kernel
theorem dX7_hasPart_21 : decode cX7_hasPart 21 = .ok (.if_icmp .gt 7, 3) := by decide +kernel
theorem dX7_hasPart_24 : decode cX7_hasPart 24 = .ok (.iconst 1, 1) := by decide +kernel
theorem dX7_hasPart_25 : decode cX7_hasPart 25 = .ok (.goto 4, 3) := by decide +kernel
theorem dX7_hasPart_28 : decode cX7_hasPart 28 = .ok (.iconst 0, 1) := by decide +kernel
theorem dX7_hasPart_29 : decode cX7_hasPart 29 = .ok (.ireturn, 1) := by decide +kernel
theorem dX7_rowRefusal_0 : decode cX7_rowRefusal 0 = .ok (.iload_n 1, 1) := by decide +kernel
theorem dX7_rowRefusal_1 : decode cX7_rowRefusal 1 = .ok (.invokestatic 50, 3) := by decide +kernel
theorem dX7_rowRefusal_4 : decode cX7_rowRefusal 4 = .ok (.ifCond .ne 5, 3) := by decide +kernel
theorem dX7_rowRefusal_7 : decode cX7_rowRefusal 7 = .ok (.iconst (-1), 1) := by decide +kernel
theorem dX7_rowRefusal_8 : decode cX7_rowRefusal 8 = .ok (.ireturn, 1) := by decide +kernel
theorem dX7_rowRefusal_9 : decode cX7_rowRefusal 9 = .ok (.iload_n 2, 1) := by decide +kernel
theorem dX7_rowRefusal_10 : decode cX7_rowRefusal 10 = .ok (.invokestatic 53, 3) := by decide +kernel
theorem dX7_rowRefusal_13 : decode cX7_rowRefusal 13 = .ok (.ifCond .ne 6, 3) := by decide +kernel
theorem dX7_rowRefusal_16 : decode cX7_rowRefusal 16 = .ok (.bipush (-2), 2) := by decide +kernel
theorem dX7_rowRefusal_18 : decode cX7_rowRefusal 18 = .ok (.ireturn, 1) := by decide +kernel
theorem dX7_rowRefusal_19 : decode cX7_rowRefusal 19 = .ok (.aload_n 0, 1) := by decide +kernel
theorem dX7_rowRefusal_20 : decode cX7_rowRefusal 20 = .ok (.iload_n 1, 1) := by decide +kernel
theorem dX7_rowRefusal_21 : decode cX7_rowRefusal 21 = .ok (.invokevirtual 37, 3) := by decide +kernel
theorem dX7_rowRefusal_24 : decode cX7_rowRefusal 24 = .ok (.ifCond .eq 6, 3) := by decide +kernel
theorem dX7_rowRefusal_27 : decode cX7_rowRefusal 27 = .ok (.bipush (-11), 2) := by decide +kernel
theorem dX7_rowRefusal_29 : decode cX7_rowRefusal 29 = .ok (.ireturn, 1) := by decide +kernel
theorem dX7_rowRefusal_30 : decode cX7_rowRefusal 30 = .ok (.aload_n 0, 1) := by decide +kernel
theorem dX7_rowRefusal_31 : decode cX7_rowRefusal 31 = .ok (.iload_n 1, 1) := by decide +kernel
theorem dX7_rowRefusal_32 : decode cX7_rowRefusal 32 = .ok (.invokevirtual 29, 3) := by decide +kernel
theorem dX7_rowRefusal_35 : decode cX7_rowRefusal 35 = .ok (.iload_n 2, 1) := by decide +kernel
theorem dX7_rowRefusal_36 : decode cX7_rowRefusal 36 = .ok (.if_icmp .ne 7, 3) := by decide +kernel
theorem dX7_rowRefusal_39 : decode cX7_rowRefusal 39 = .ok (.iconst 0, 1) := by decide +kernel
theorem dX7_rowRefusal_40 : decode cX7_rowRefusal 40 = .ok (.goto 5, 3) := by decide +kernel
theorem dX7_rowRefusal_43 : decode cX7_rowRefusal 43 = .ok (.bipush (-12), 2) := by decide +kernel
theorem dX7_rowRefusal_45 : decode cX7_rowRefusal 45 = .ok (.ireturn, 1) := by decide +kernel
theorem dX7_partRefusal_0 : decode cX7_partRefusal 0 = .ok (.aload_n 0, 1) := by decide +kernel
theorem dX7_partRefusal_1 : decode cX7_partRefusal 1 = .ok (.iload_n 1, 1) := by decide +kernel
theorem dX7_partRefusal_2 : decode cX7_partRefusal 2 = .ok (.iload_n 2, 1) := by decide +kernel
theorem dX7_partRefusal_3 : decode cX7_partRefusal 3 = .ok (.invokevirtual 56, 3) := by decide +kernel
theorem dX7_partRefusal_6 : decode cX7_partRefusal 6 = .ok (.istore 5, 2) := by decide +kernel
theorem dX7_partRefusal_8 : decode cX7_partRefusal 8 = .ok (.iload 5, 2) := by decide +kernel
theorem dX7_partRefusal_10 : decode cX7_partRefusal 10 = .ok (.ifCond .eq 6, 3) := by decide +kernel
theorem dX7_partRefusal_13 : decode cX7_partRefusal 13 = .ok (.iload 5, 2) := by decide +kernel
theorem dX7_partRefusal_15 : decode cX7_partRefusal 15 = .ok (.ireturn, 1) := by decide +kernel
theorem dX7_partRefusal_16 : decode cX7_partRefusal 16 = .ok (.iload 4, 2) := by decide +kernel
theorem dX7_partRefusal_18 : decode cX7_partRefusal 18 = .ok (.ifCond .ge 6, 3) := by decide +kernel
theorem dX7_partRefusal_21 : decode cX7_partRefusal 21 = .ok (.bipush (-14), 2) := by decide +kernel
theorem dX7_partRefusal_23 : decode cX7_partRefusal 23 = .ok (.ireturn, 1) := by decide +kernel
theorem dX7_partRefusal_24 : decode cX7_partRefusal 24 = .ok (.aload_n 0, 1) := by decide +kernel
theorem dX7_partRefusal_25 : decode cX7_partRefusal 25 = .ok (.iload_n 1, 1) := by decide +kernel
theorem dX7_partRefusal_26 : decode cX7_partRefusal 26 = .ok (.iload_n 3, 1) := by decide +kernel
theorem dX7_partRefusal_27 : decode cX7_partRefusal 27 = .ok (.iload 4, 2) := by decide +kernel
theorem dX7_partRefusal_29 : decode cX7_partRefusal 29 = .ok (.invokevirtual 59, 3) := by decide +kernel
theorem dX7_partRefusal_32 : decode cX7_partRefusal 32 = .ok (.ifCond .eq 7, 3) := by decide +kernel
theorem dX7_partRefusal_35 : decode cX7_partRefusal 35 = .ok (.iconst 0, 1) := by decide +kernel
theorem dX7_partRefusal_36 : decode cX7_partRefusal 36 = .ok (.goto 5, 3) := by decide +kernel
theorem dX7_partRefusal_39 : decode cX7_partRefusal 39 = .ok (.bipush (-13), 2) := by decide +kernel
theorem dX7_partRefusal_41 : decode cX7_partRefusal 41 = .ok (.ireturn, 1) := by decide +kernel
theorem dX8_init_0 : decode cX8_init 0 = .ok (.aload_n 0, 1) := by decide +kernel
theorem dX8_init_1 : decode cX8_init 1 = .ok (.invokespecial 5, 3) := by decide +kernel
theorem dX8_init_4 : decode cX8_init 4 = .ok (.aload_n 0, 1) := by decide +kernel
theorem dX8_init_5 : decode cX8_init 5 = .ok (.iconst 0, 1) := by decide +kernel
theorem dX8_init_6 : decode cX8_init 6 = .ok (.putfield 11, 3) := by decide +kernel
theorem dX8_init_9 : decode cX8_init 9 = .ok (.aload_n 0, 1) := by decide +kernel
theorem dX8_init_10 : decode cX8_init 10 = .ok (.iconst 0, 1) := by decide +kernel
theorem dX8_init_11 : decode cX8_init 11 = .ok (.putfield 15, 3) := by decide +kernel
theorem dX8_init_14 : decode cX8_init 14 = .ok (.aload_n 0, 1) := by decide +kernel
theorem dX8_init_15 : decode cX8_init 15 = .ok (.iconst 0, 1) := by decide +kernel
theorem dX8_init_16 : decode cX8_init 16 = .ok (.putfield 19, 3) := by decide +kernel
theorem dX8_init_19 : decode cX8_init 19 = .ok (.aload_n 0, 1) := by decide +kernel
theorem dX8_init_20 : decode cX8_init 20 = .ok (.new 22, 3) := by decide +kernel
theorem dX8_init_23 : decode cX8_init 23 = .ok (.dup, 1) := by decide +kernel
theorem dX8_init_24 : decode cX8_init 24 = .ok (.invokespecial 24, 3) := by decide +kernel
theorem dX8_init_27 : decode cX8_init 27 = .ok (.putfield 25, 3) := by decide +kernel
theorem dX8_init_30 : decode cX8_init 30 = .ok (.aload_n 0, 1) := by decide +kernel
theorem dX8_init_31 : decode cX8_init 31 = .ok (.new 29, 3) := by decide +kernel
theorem dX8_init_34 : decode cX8_init 34 = .ok (.dup, 1) := by decide +kernel
theorem dX8_init_35 : decode cX8_init 35 = .ok (.invokespecial 31, 3) := by decide +kernel
theorem dX8_init_38 : decode cX8_init 38 = .ok (.putfield 32, 3) := by decide +kernel
theorem dX8_init_41 : decode cX8_init 41 = .ok (.aload_n 0, 1) := by decide +kernel
theorem dX8_init_42 : decode cX8_init 42 = .ok (.new 36, 3) := by decide +kernel
theorem dX8_init_45 : decode cX8_init 45 = .ok (.dup, 1) := by decide +kernel
theorem dX8_init_46 : decode cX8_init 46 = .ok (.aload_n 0, 1) := by decide +kernel
theorem dX8_init_47 : decode cX8_init 47 = .ok (.getfield 25, 3) := by decide +kernel
theorem dX8_init_50 : decode cX8_init 50 = .ok (.getfield 38, 3) := by decide +kernel
theorem dX8_init_53 : decode cX8_init 53 = .ok (.new 29, 3) := by decide +kernel
theorem dX8_init_56 : decode cX8_init 56 = .ok (.dup, 1) := by decide +kernel
theorem dX8_init_57 : decode cX8_init 57 = .ok (.invokespecial 31, 3) := by decide +kernel
theorem dX8_init_60 : decode cX8_init 60 = .ok (.invokespecial 42, 3) := by decide +kernel
theorem dX8_init_63 : decode cX8_init 63 = .ok (.putfield 45, 3) := by decide +kernel
theorem dX8_init_66 : decode cX8_init 66 = .ok (.aload_n 0, 1) := by decide +kernel
theorem dX8_init_67 : decode cX8_init 67 = .ok (.new 49, 3) := by decide +kernel
theorem dX8_init_70 : decode cX8_init 70 = .ok (.dup, 1) := by decide +kernel
theorem dX8_init_71 : decode cX8_init 71 = .ok (.aload_n 0, 1) := by decide +kernel
theorem dX8_init_72 : decode cX8_init 72 = .ok (.getfield 32, 3) := by decide +kernel
theorem dX8_init_75 : decode cX8_init 75 = .ok (.invokespecial 51, 3) := by decide +kernel
theorem dX8_init_78 : decode cX8_init 78 = .ok (.putfield 54, 3) := by decide +kernel
theorem dX8_init_81 : decode cX8_init 81 = .ok (.aload_n 0, 1) := by decide +kernel
theorem dX8_init_82 : decode cX8_init 82 = .ok (.new 58, 3) := by decide +kernel
theorem dX8_init_85 : decode cX8_init 85 = .ok (.dup, 1) := by decide +kernel
theorem dX8_init_86 : decode cX8_init 86 = .ok (.aload_n 0, 1) := by decide +kernel
theorem dX8_init_87 : decode cX8_init 87 = .ok (.getfield 54, 3) := by decide +kernel
theorem dX8_init_90 : decode cX8_init 90 = .ok (.invokespecial 60, 3) := by decide +kernel
theorem dX8_init_93 : decode cX8_init 93 = .ok (.putfield 63, 3) := by decide +kernel
theorem dX8_init_96 : decode cX8_init 96 = .ok (.aload_n 0, 1) := by decide +kernel
theorem dX8_init_97 : decode cX8_init 97 = .ok (.new 67, 3) := by decide +kernel
theorem dX8_init_100 : decode cX8_init 100 = .ok (.dup, 1) := by decide +kernel
theorem dX8_init_101 : decode cX8_init 101 = .ok (.aload_n 0, 1) := by decide +kernel
theorem dX8_init_102 : decode cX8_init 102 = .ok (.getfield 63, 3) := by decide +kernel
theorem dX8_init_105 : decode cX8_init 105 = .ok (.invokespecial 69, 3) := by decide +kernel
theorem dX8_init_108 : decode cX8_init 108 = .ok (.putfield 72, 3) := by decide +kernel
theorem dX8_init_111 : decode cX8_init 111 = .ok (.aload_n 0, 1) := by decide +kernel
theorem dX8_init_112 : decode cX8_init 112 = .ok (.new 49, 3) := by decide +kernel
theorem dX8_init_115 : decode cX8_init 115 = .ok (.dup, 1) := by decide +kernel
theorem dX8_init_116 : decode cX8_init 116 = .ok (.aload_n 0, 1) := by decide +kernel
theorem dX8_init_117 : decode cX8_init 117 = .ok (.getfield 32, 3) := by decide +kernel
theorem dX8_init_120 : decode cX8_init 120 = .ok (.invokespecial 51, 3) := by decide +kernel
theorem dX8_init_123 : decode cX8_init 123 = .ok (.putfield 76, 3) := by decide +kernel
theorem dX8_init_126 : decode cX8_init 126 = .ok (.aload_n 0, 1) := by decide +kernel
theorem dX8_init_127 : decode cX8_init 127 = .ok (.new 58, 3) := by decide +kernel
theorem dX8_init_130 : decode cX8_init 130 = .ok (.dup, 1) := by decide +kernel
theorem dX8_init_131 : decode cX8_init 131 = .ok (.aload_n 0, 1) := by decide +kernel
theorem dX8_init_132 : decode cX8_init 132 = .ok (.getfield 76, 3) := by decide +kernel
theorem dX8_init_135 : decode cX8_init 135 = .ok (.invokespecial 60, 3) := by decide +kernel
theorem dX8_init_138 : decode cX8_init 138 = .ok (.putfield 79, 3) := by decide +kernel
theorem dX8_init_141 : decode cX8_init 141 = .ok (.aload_n 0, 1) := by decide +kernel
theorem dX8_init_142 : decode cX8_init 142 = .ok (.new 67, 3) := by decide +kernel
theorem dX8_init_145 : decode cX8_init 145 = .ok (.dup, 1) := by decide +kernel
theorem dX8_init_146 : decode cX8_init 146 = .ok (.aload_n 0, 1) := by decide +kernel
theorem dX8_init_147 : decode cX8_init 147 = .ok (.getfield 79, 3) := by decide +kernel
theorem dX8_init_150 : decode cX8_init 150 = .ok (.invokespecial 69, 3) := by decide +kernel
theorem dX8_init_153 : decode cX8_init 153 = .ok (.putfield 82, 3) := by decide +kernel
theorem dX8_init_156 : decode cX8_init 156 = .ok (.aload_n 0, 1) := by decide +kernel
theorem dX8_init_157 : decode cX8_init 157 = .ok (.new 85, 3) := by decide +kernel
theorem dX8_init_160 : decode cX8_init 160 = .ok (.dup, 1) := by decide +kernel
theorem dX8_init_161 : decode cX8_init 161 = .ok (.invokespecial 87, 3) := by decide +kernel
theorem dX8_init_164 : decode cX8_init 164 = .ok (.putfield 88, 3) := by decide +kernel
theorem dX8_init_167 : decode cX8_init 167 = .ok (.aload_n 0, 1) := by decide +kernel
theorem dX8_init_168 : decode cX8_init 168 = .ok (.new 92, 3) := by decide +kernel
theorem dX8_init_171 : decode cX8_init 171 = .ok (.dup, 1) := by decide +kernel
theorem dX8_init_172 : decode cX8_init 172 = .ok (.aload_n 0, 1) := by decide +kernel
theorem dX8_init_173 : decode cX8_init 173 = .ok (.getfield 54, 3) := by decide +kernel
theorem dX8_init_176 : decode cX8_init 176 = .ok (.aload_n 0, 1) := by decide +kernel
theorem dX8_init_177 : decode cX8_init 177 = .ok (.getfield 82, 3) := by decide +kernel
theorem dX8_init_180 : decode cX8_init 180 = .ok (.invokespecial 94, 3) := by decide +kernel
theorem dX8_init_183 : decode cX8_init 183 = .ok (.putfield 97, 3) := by decide +kernel
theorem dX8_init_186 : decode cX8_init 186 = .ok (.return_, 1) := by decide +kernel
theorem dX8_at_0 : decode cX8_at 0 = .ok (.aload_n 0, 1) := by decide +kernel
theorem dX8_at_1 : decode cX8_at 1 = .ok (.ifnull 19, 3) := by decide +kernel
theorem dX8_at_4 : decode cX8_at 4 = .ok (.iload_n 1, 1) := by decide +kernel
theorem dX8_at_5 : decode cX8_at 5 = .ok (.ifCond .lt 15, 3) := by decide +kernel
theorem dX8_at_8 : decode cX8_at 8 = .ok (.iload_n 1, 1) := by decide +kernel
theorem dX8_at_9 : decode cX8_at 9 = .ok (.aload_n 0, 1) := by decide +kernel
theorem dX8_at_10 : decode cX8_at 10 = .ok (.arraylength, 1) := by decide +kernel
theorem dX8_at_11 : decode cX8_at 11 = .ok (.if_icmp .ge 9, 3) := by decide +kernel
theorem dX8_at_14 : decode cX8_at 14 = .ok (.aload_n 0, 1) := by decide +kernel
theorem dX8_at_15 : decode cX8_at 15 = .ok (.iload_n 1, 1) := by decide +kernel
theorem dX8_at_16 : decode cX8_at 16 = .ok (.iaload, 1) := by decide +kernel
theorem dX8_at_17 : decode cX8_at 17 = .ok (.goto 4, 3) := by decide +kernel
theorem dX8_at_20 : decode cX8_at 20 = .ok (.iconst 0, 1) := by decide +kernel
theorem dX8_at_21 : decode cX8_at 21 = .ok (.ireturn, 1) := by decide +kernel
theorem dX8_set_0 : decode cX8_set 0 = .ok (.aload_n 0, 1) := by decide +kernel
theorem dX8_set_1 : decode cX8_set 1 = .ok (.ifnull 17, 3) := by decide +kernel
theorem dX8_set_4 : decode cX8_set 4 = .ok (.iload_n 1, 1) := by decide +kernel
theorem dX8_set_5 : decode cX8_set 5 = .ok (.ifCond .lt 13, 3) := by decide +kernel
theorem dX8_set_8 : decode cX8_set 8 = .ok (.iload_n 1, 1) := by decide +kernel
theorem dX8_set_9 : decode cX8_set 9 = .ok (.aload_n 0, 1) := by decide +kernel
theorem dX8_set_10 : decode cX8_set 10 = .ok (.arraylength, 1) := by decide +kernel
theorem dX8_set_11 : decode cX8_set 11 = .ok (.if_icmp .ge 7, 3) := by decide +kernel
theorem dX8_set_14 : decode cX8_set 14 = .ok (.aload_n 0, 1) := by decide +kernel
theorem dX8_set_15 : decode cX8_set 15 = .ok (.iload_n 1, 1) := by decide +kernel
theorem dX8_set_16 : decode cX8_set 16 = .ok (.iload_n 2, 1) := by decide +kernel
theorem dX8_set_17 : decode cX8_set 17 = .ok (.iastore, 1) := by decide +kernel
theorem dX8_set_18 : decode cX8_set 18 = .ok (.return_, 1) := by decide +kernel
theorem dX8_longAt_0 : decode cX8_longAt 0 = .ok (.aload_n 0, 1) := by decide +kernel
theorem dX8_longAt_1 : decode cX8_longAt 1 = .ok (.ifnull 19, 3) := by decide +kernel
theorem dX8_longAt_4 : decode cX8_longAt 4 = .ok (.iload_n 1, 1) := by decide +kernel
theorem dX8_longAt_5 : decode cX8_longAt 5 = .ok (.ifCond .lt 15, 3) := by decide +kernel
theorem dX8_longAt_8 : decode cX8_longAt 8 = .ok (.iload_n 1, 1) := by decide +kernel
theorem dX8_longAt_9 : decode cX8_longAt 9 = .ok (.aload_n 0, 1) := by decide +kernel
theorem dX8_longAt_10 : decode cX8_longAt 10 = .ok (.arraylength, 1) := by decide +kernel
theorem dX8_longAt_11 : decode cX8_longAt 11 = .ok (.if_icmp .ge 9, 3) := by decide +kernel
theorem dX8_longAt_14 : decode cX8_longAt 14 = .ok (.aload_n 0, 1) := by decide +kernel
theorem dX8_longAt_15 : decode cX8_longAt 15 = .ok (.iload_n 1, 1) := by decide +kernel
theorem dX8_longAt_16 : decode cX8_longAt 16 = .ok (.laload, 1) := by decide +kernel
theorem dX8_longAt_17 : decode cX8_longAt 17 = .ok (.goto 4, 3) := by decide +kernel
theorem dX8_longAt_20 : decode cX8_longAt 20 = .ok (.lconst 0, 1) := by decide +kernel
theorem dX8_longAt_21 : decode cX8_longAt 21 = .ok (.lreturn, 1) := by decide +kernel
theorem dX8_setLong_0 : decode cX8_setLong 0 = .ok (.aload_n 0, 1) := by decide +kernel
theorem dX8_setLong_1 : decode cX8_setLong 1 = .ok (.ifnull 17, 3) := by decide +kernel
theorem dX8_setLong_4 : decode cX8_setLong 4 = .ok (.iload_n 1, 1) := by decide +kernel
theorem dX8_setLong_5 : decode cX8_setLong 5 = .ok (.ifCond .lt 13, 3) := by decide +kernel
theorem dX8_setLong_8 : decode cX8_setLong 8 = .ok (.iload_n 1, 1) := by decide +kernel
theorem dX8_setLong_9 : decode cX8_setLong 9 = .ok (.aload_n 0, 1) := by decide +kernel
theorem dX8_setLong_10 : decode cX8_setLong 10 = .ok (.arraylength, 1) := by decide +kernel
theorem dX8_setLong_11 : decode cX8_setLong 11 = .ok (.if_icmp .ge 7, 3) := by decide +kernel
theorem dX8_setLong_14 : decode cX8_setLong 14 = .ok (.aload_n 0, 1) := by decide +kernel
theorem dX8_setLong_15 : decode cX8_setLong 15 = .ok (.iload_n 1, 1) := by decide +kernel
theorem dX8_setLong_16 : decode cX8_setLong 16 = .ok (.lload_n 2, 1) := by decide +kernel
theorem dX8_setLong_17 : decode cX8_setLong 17 = .ok (.lastore, 1) := by decide +kernel
theorem dX8_setLong_18 : decode cX8_setLong 18 = .ok (.return_, 1) := by decide +kernel
theorem dX8_worthIn_0 : decode cX8_worthIn 0 = .ok (.iload_n 2, 1) := by decide +kernel
theorem dX8_worthIn_1 : decode cX8_worthIn 1 = .ok (.ifCond .lt 22, 3) := by decide +kernel
theorem dX8_worthIn_4 : decode cX8_worthIn 4 = .ok (.iload_n 2, 1) := by decide +kernel
theorem dX8_worthIn_5 : decode cX8_worthIn 5 = .ok (.iconst 5, 1) := by decide +kernel
theorem dX8_worthIn_6 : decode cX8_worthIn 6 = .ok (.if_icmp .ge 17, 3) := by decide +kernel
theorem dX8_worthIn_9 : decode cX8_worthIn 9 = .ok (.lload_n 0, 1) := by decide +kernel
theorem dX8_worthIn_10 : decode cX8_worthIn 10 = .ok (.iload_n 2, 1) := by decide +kernel
theorem dX8_worthIn_11 : decode cX8_worthIn 11 = .ok (.bipush 8, 2) := by decide +kernel
theorem dX8_worthIn_13 : decode cX8_worthIn 13 = .ok (.imul, 1) := by decide +kernel
theorem dX8_worthIn_14 : decode cX8_worthIn 14 = .ok (.lshr, 1) := by decide +kernel
theorem dX8_worthIn_15 : decode cX8_worthIn 15 = .ok (.l2i, 1) := by decide +kernel
theorem dX8_worthIn_16 : decode cX8_worthIn 16 = .ok (.sipush 255, 3) := by decide +kernel
theorem dX8_worthIn_19 : decode cX8_worthIn 19 = .ok (.iand, 1) := by decide +kernel
theorem dX8_worthIn_20 : decode cX8_worthIn 20 = .ok (.goto 4, 3) := by decide +kernel
theorem dX8_worthIn_23 : decode cX8_worthIn 23 = .ok (.iconst 0, 1) := by decide +kernel
theorem dX8_worthIn_24 : decode cX8_worthIn 24 = .ok (.ireturn, 1) := by decide +kernel
theorem dX8_worthToAll_0 : decode cX8_worthToAll 0 = .ok (.iconst 0, 1) := by decide +kernel
theorem dX8_worthToAll_1 : decode cX8_worthToAll 1 = .ok (.istore_n 2, 1) := by decide +kernel
theorem dX8_worthToAll_2 : decode cX8_worthToAll 2 = .ok (.iconst 0, 1) := by decide +kernel
theorem dX8_worthToAll_3 : decode cX8_worthToAll 3 = .ok (.istore_n 3, 1) := by decide +kernel
theorem dX8_worthToAll_4 : decode cX8_worthToAll 4 = .ok (.iload_n 3, 1) := by decide +kernel
theorem dX8_worthToAll_5 : decode cX8_worthToAll 5 = .ok (.iconst 5, 1) := by decide +kernel
theorem dX8_worthToAll_6 : decode cX8_worthToAll 6 = .ok (.if_icmp .ge 17, 3) := by decide +kernel
theorem dX8_worthToAll_9 : decode cX8_worthToAll 9 = .ok (.iload_n 2, 1) := by decide +kernel
theorem dX8_worthToAll_10 : decode cX8_worthToAll 10 = .ok (.lload_n 0, 1) := by decide +kernel
theorem dX8_worthToAll_11 : decode cX8_worthToAll 11 = .ok (.iload_n 3, 1) := by decide +kernel
theorem dX8_worthToAll_12 : decode cX8_worthToAll 12 = .ok (.invokestatic 101, 3) := by decide +kernel
theorem dX8_worthToAll_15 : decode cX8_worthToAll 15 = .ok (.iadd, 1) := by decide +kernel
theorem dX8_worthToAll_16 : decode cX8_worthToAll 16 = .ok (.istore_n 2, 1) := by decide +kernel
theorem dX8_worthToAll_17 : decode cX8_worthToAll 17 = .ok (.iinc 3 1, 3) := by decide +kernel
theorem dX8_worthToAll_20 : decode cX8_worthToAll 20 = .ok (.goto (-16), 3) := by decide +kernel
theorem dX8_worthToAll_23 : decode cX8_worthToAll 23 = .ok (.iload_n 2, 1) := by decide +kernel
theorem dX8_worthToAll_24 : decode cX8_worthToAll 24 = .ok (.ireturn, 1) := by decide +kernel
theorem dX8_council_0 : decode cX8_council 0 = .ok (.aload_n 0, 1) := by decide +kernel
theorem dX8_council_1 : decode cX8_council 1 = .ok (.getfield 25, 3) := by decide +kernel
theorem dX8_council_4 : decode cX8_council 4 = .ok (.iload_n 1, 1) := by decide +kernel
theorem dX8_council_5 : decode cX8_council 5 = .ok (.iload_n 2, 1) := by decide +kernel
theorem dX8_council_6 : decode cX8_council 6 = .ok (.iload_n 3, 1) := by decide +kernel
theorem dX8_council_7 : decode cX8_council 7 = .ok (.iload 4, 2) := by decide +kernel
theorem dX8_council_9 : decode cX8_council 9 = .ok (.invokevirtual 105, 3) := by decide +kernel
theorem dX8_council_12 : decode cX8_council 12 = .ok (.istore 5, 2) := by decide +kernel
theorem dX8_council_14 : decode cX8_council 14 = .ok (.iload 5, 2) := by decide +kernel
theorem dX8_council_16 : decode cX8_council 16 = .ok (.ifCond .eq 10, 3) := by decide +kernel
theorem dX8_council_19 : decode cX8_council 19 = .ok (.aload_n 0, 1) := by decide +kernel
theorem dX8_council_20 : decode cX8_council 20 = .ok (.iload 5, 2) := by decide +kernel
theorem dX8_council_22 : decode cX8_council 22 = .ok (.invokevirtual 109, 3) := by decide +kernel
theorem dX8_council_25 : decode cX8_council 25 = .ok (.ireturn, 1) := by decide +kernel
theorem dX8_council_26 : decode cX8_council 26 = .ok (.aload_n 0, 1) := by decide +kernel
theorem dX8_council_27 : decode cX8_council 27 = .ok (.getfield 45, 3) := by decide +kernel
theorem dX8_council_30 : decode cX8_council 30 = .ok (.iload_n 1, 1) := by decide +kernel
theorem dX8_council_31 : decode cX8_council 31 = .ok (.iload_n 3, 1) := by decide +kernel
theorem dX8_council_32 : decode cX8_council 32 = .ok (.invokestatic 113, 3) := by decide +kernel
theorem dX8_council_35 : decode cX8_council 35 = .ok (.iload 4, 2) := by decide +kernel
theorem dX8_council_37 : decode cX8_council 37 = .ok (.invokevirtual 117, 3) := by decide +kernel
theorem dX8_council_40 : decode cX8_council 40 = .ok (.istore 6, 2) := by decide +kernel
theorem dX8_council_42 : decode cX8_council 42 = .ok (.iload 6, 2) := by decide +kernel
theorem dX8_council_44 : decode cX8_council 44 = .ok (.ifCond .lt 13, 3) := by decide +kernel
theorem dX8_council_47 : decode cX8_council 47 = .ok (.aload_n 0, 1) := by decide +kernel
theorem dX8_council_48 : decode cX8_council 48 = .ok (.bipush (-100), 2) := by decide +kernel
theorem dX8_council_50 : decode cX8_council 50 = .ok (.iload 6, 2) := by decide +kernel
theorem dX8_council_52 : decode cX8_council 52 = .ok (.isub, 1) := by decide +kernel
theorem dX8_council_53 : decode cX8_council 53 = .ok (.invokevirtual 109, 3) := by decide +kernel
theorem dX8_council_56 : decode cX8_council 56 = .ok (.ireturn, 1) := by decide +kernel
theorem dX8_council_57 : decode cX8_council 57 = .ok (.aload_n 0, 1) := by decide +kernel
theorem dX8_council_58 : decode cX8_council 58 = .ok (.getfield 32, 3) := by decide +kernel
theorem dX8_council_61 : decode cX8_council 61 = .ok (.aload_n 0, 1) := by decide +kernel
theorem dX8_council_62 : decode cX8_council 62 = .ok (.getfield 45, 3) := by decide +kernel
theorem dX8_council_65 : decode cX8_council 65 = .ok (.getfield 120, 3) := by decide +kernel
theorem dX8_council_68 : decode cX8_council 68 = .ok (.invokevirtual 123, 3) := by decide +kernel
theorem dX8_council_71 : decode cX8_council 71 = .ok (.aload_n 0, 1) := by decide +kernel
theorem dX8_council_72 : decode cX8_council 72 = .ok (.getfield 54, 3) := by decide +kernel
theorem dX8_council_75 : decode cX8_council 75 = .ok (.invokevirtual 126, 3) := by decide +kernel
theorem dX8_council_78 : decode cX8_council 78 = .ok (.aload_n 0, 1) := by decide +kernel
theorem dX8_council_79 : decode cX8_council 79 = .ok (.invokevirtual 129, 3) := by decide +kernel
theorem dX8_council_82 : decode cX8_council 82 = .ok (.aload_n 0, 1) := by decide +kernel
theorem dX8_council_83 : decode cX8_council 83 = .ok (.aload_n 0, 1) := by decide +kernel
theorem dX8_council_84 : decode cX8_council 84 = .ok (.getfield 32, 3) := by decide +kernel
theorem dX8_council_87 : decode cX8_council 87 = .ok (.getfield 132, 3) := by decide +kernel
theorem dX8_council_90 : decode cX8_council 90 = .ok (.invokevirtual 109, 3) := by decide +kernel
theorem dX8_council_93 : decode cX8_council 93 = .ok (.ireturn, 1) := by decide +kernel
theorem dX8_law_0 : decode cX8_law 0 = .ok (.iload_n 1, 1) := by decide +kernel
theorem dX8_law_1 : decode cX8_law 1 = .ok (.ifCond .lt 8, 3) := by decide +kernel
theorem dX8_law_4 : decode cX8_law 4 = .ok (.iload_n 1, 1) := by decide +kernel
theorem dX8_law_5 : decode cX8_law 5 = .ok (.iconst 4, 1) := by decide +kernel
theorem dX8_law_6 : decode cX8_law 6 = .ok (.if_icmp .lt 6, 3) := by decide +kernel
theorem dX8_law_9 : decode cX8_law 9 = .ok (.bipush (-2), 2) := by decide +kernel
theorem dX8_law_11 : decode cX8_law 11 = .ok (.ireturn, 1) := by decide +kernel
theorem dX8_law_12 : decode cX8_law 12 = .ok (.aload_n 0, 1) := by decide +kernel
theorem dX8_law_13 : decode cX8_law 13 = .ok (.getfield 32, 3) := by decide +kernel
theorem dX8_law_16 : decode cX8_law 16 = .ok (.getfield 132, 3) := by decide +kernel
theorem dX8_law_19 : decode cX8_law 19 = .ok (.ifCond .ne 6, 3) := by decide +kernel
theorem dX8_law_22 : decode cX8_law 22 = .ok (.bipush (-3), 2) := by decide +kernel
theorem dX8_law_24 : decode cX8_law 24 = .ok (.ireturn, 1) := by decide +kernel
theorem dX8_law_25 : decode cX8_law 25 = .ok (.aload_n 0, 1) := by decide +kernel
theorem dX8_law_26 : decode cX8_law 26 = .ok (.getfield 54, 3) := by decide +kernel
theorem dX8_law_29 : decode cX8_law 29 = .ok (.getfield 160, 3) := by decide +kernel
theorem dX8_law_32 : decode cX8_law 32 = .ok (.istore_n 2, 1) := by decide +kernel
theorem dX8_law_33 : decode cX8_law 33 = .ok (.aload_n 0, 1) := by decide +kernel
theorem dX8_law_34 : decode cX8_law 34 = .ok (.getfield 54, 3) := by decide +kernel
theorem dX8_law_37 : decode cX8_law 37 = .ok (.iload_n 1, 1) := by decide +kernel
theorem dX8_law_38 : decode cX8_law 38 = .ok (.putfield 160, 3) := by decide +kernel
theorem dX8_law_41 : decode cX8_law 41 = .ok (.aload_n 0, 1) := by decide +kernel
theorem dX8_law_42 : decode cX8_law 42 = .ok (.invokevirtual 129, 3) := by decide +kernel
theorem dX8_law_45 : decode cX8_law 45 = .ok (.iload_n 2, 1) := by decide +kernel
theorem dX8_law_46 : decode cX8_law 46 = .ok (.ireturn, 1) := by decide +kernel
theorem dX8_swap_0 : decode cX8_swap 0 = .ok (.aload_n 0, 1) := by decide +kernel
theorem dX8_swap_1 : decode cX8_swap 1 = .ok (.getfield 32, 3) := by decide +kernel
theorem dX8_swap_4 : decode cX8_swap 4 = .ok (.iload_n 1, 1) := by decide +kernel
theorem dX8_swap_5 : decode cX8_swap 5 = .ok (.invokevirtual 135, 3) := by decide +kernel
theorem dX8_swap_8 : decode cX8_swap 8 = .ok (.ifCond .eq 14, 3) := by decide +kernel
theorem dX8_swap_11 : decode cX8_swap 11 = .ok (.aload_n 0, 1) := by decide +kernel
theorem dX8_swap_12 : decode cX8_swap 12 = .ok (.getfield 32, 3) := by decide +kernel
theorem dX8_swap_15 : decode cX8_swap 15 = .ok (.iload_n 2, 1) := by decide +kernel
theorem dX8_swap_16 : decode cX8_swap 16 = .ok (.invokevirtual 135, 3) := by decide +kernel
theorem dX8_swap_19 : decode cX8_swap 19 = .ok (.ifCond .ne 5, 3) := by decide +kernel
theorem dX8_swap_22 : decode cX8_swap 22 = .ok (.iconst (-1), 1) := by decide +kernel
theorem dX8_swap_23 : decode cX8_swap 23 = .ok (.ireturn, 1) := by decide +kernel
theorem dX8_swap_24 : decode cX8_swap 24 = .ok (.aload_n 0, 1) := by decide +kernel
theorem dX8_swap_25 : decode cX8_swap 25 = .ok (.getfield 54, 3) := by decide +kernel
theorem dX8_swap_28 : decode cX8_swap 28 = .ok (.aload_n 0, 1) := by decide +kernel
theorem dX8_swap_29 : decode cX8_swap 29 = .ok (.getfield 54, 3) := by decide +kernel
theorem dX8_swap_32 : decode cX8_swap 32 = .ok (.iload_n 1, 1) := by decide +kernel
theorem dX8_swap_33 : decode cX8_swap 33 = .ok (.invokevirtual 145, 3) := by decide +kernel
theorem dX8_swap_36 : decode cX8_swap 36 = .ok (.aload_n 0, 1) := by decide +kernel
theorem dX8_swap_37 : decode cX8_swap 37 = .ok (.getfield 54, 3) := by decide +kernel
theorem dX8_swap_40 : decode cX8_swap 40 = .ok (.iload_n 2, 1) := by decide +kernel
theorem dX8_swap_41 : decode cX8_swap 41 = .ok (.invokevirtual 145, 3) := by decide +kernel
theorem dX8_swap_44 : decode cX8_swap 44 = .ok (.invokevirtual 163, 3) := by decide +kernel
theorem dX8_swap_47 : decode cX8_swap 47 = .ok (.aload_n 0, 1) := by decide +kernel
theorem dX8_swap_48 : decode cX8_swap 48 = .ok (.invokevirtual 129, 3) := by decide +kernel
theorem dX8_swap_51 : decode cX8_swap 51 = .ok (.iconst 1, 1) := by decide +kernel
theorem dX8_swap_52 : decode cX8_swap 52 = .ok (.ireturn, 1) := by decide +kernel
theorem dX8_forgetWhatWas_0 : decode cX8_forgetWhatWas 0 = .ok (.aload_n 0, 1) := by decide +kernel
theorem dX8_forgetWhatWas_1 : decode cX8_forgetWhatWas 1 = .ok (.iconst 0, 1) := by decide +kernel
theorem dX8_forgetWhatWas_2 : decode cX8_forgetWhatWas 2 = .ok (.putfield 11, 3) := by decide +kernel
theorem dX8_forgetWhatWas_5 : decode cX8_forgetWhatWas 5 = .ok (.aload_n 0, 1) := by decide +kernel
theorem dX8_forgetWhatWas_6 : decode cX8_forgetWhatWas 6 = .ok (.getfield 97, 3) := by decide +kernel
theorem dX8_forgetWhatWas_9 : decode cX8_forgetWhatWas 9 = .ok (.invokevirtual 167, 3) := by decide +kernel
theorem dX8_forgetWhatWas_12 : decode cX8_forgetWhatWas 12 = .ok (.aload_n 0, 1) := by decide +kernel
theorem dX8_forgetWhatWas_13 : decode cX8_forgetWhatWas 13 = .ok (.getfield 88, 3) := by decide +kernel
theorem dX8_forgetWhatWas_16 : decode cX8_forgetWhatWas 16 = .ok (.invokevirtual 170, 3) := by decide +kernel
theorem dX8_forgetWhatWas_19 : decode cX8_forgetWhatWas 19 = .ok (.return_, 1) := by decide +kernel
theorem dX8_areWords_0 : decode cX8_areWords 0 = .ok (.iconst 0, 1) := by decide +kernel
theorem dX8_areWords_1 : decode cX8_areWords 1 = .ok (.istore 4, 2) := by decide +kernel
theorem dX8_areWords_3 : decode cX8_areWords 3 = .ok (.iload 4, 2) := by decide +kernel
theorem dX8_areWords_5 : decode cX8_areWords 5 = .ok (.iload_n 3, 1) := by decide +kernel
theorem dX8_areWords_6 : decode cX8_areWords 6 = .ok (.if_icmp .ge 60, 3) := by decide +kernel
theorem dX8_areWords_9 : decode cX8_areWords 9 = .ok (.iload 4, 2) := by decide +kernel
theorem dX8_areWords_11 : decode cX8_areWords 11 = .ok (.bipush 6, 2) := by decide +kernel
theorem dX8_areWords_13 : decode cX8_areWords 13 = .ok (.if_icmp .ge 53, 3) := by decide +kernel
theorem dX8_areWords_16 : decode cX8_areWords 16 = .ok (.aload_n 0, 1) := by decide +kernel
theorem dX8_areWords_17 : decode cX8_areWords 17 = .ok (.getfield 25, 3) := by decide +kernel
theorem dX8_areWords_20 : decode cX8_areWords 20 = .ok (.iload_n 1, 1) := by decide +kernel
theorem dX8_areWords_21 : decode cX8_areWords 21 = .ok (.iload_n 2, 1) := by decide +kernel
theorem dX8_areWords_22 : decode cX8_areWords 22 = .ok (.iload 4, 2) := by decide +kernel
theorem dX8_areWords_24 : decode cX8_areWords 24 = .ok (.iadd, 1) := by decide +kernel
theorem dX8_areWords_25 : decode cX8_areWords 25 = .ok (.invokevirtual 200, 3) := by decide +kernel
theorem dX8_areWords_28 : decode cX8_areWords 28 = .ok (.istore 5, 2) := by decide +kernel
theorem dX8_areWords_30 : decode cX8_areWords 30 = .ok (.iload 5, 2) := by decide +kernel
theorem dX8_areWords_32 : decode cX8_areWords 32 = .ok (.bipush (-9), 2) := by decide +kernel
theorem dX8_areWords_34 : decode cX8_areWords 34 = .ok (.if_icmp .eq 26, 3) := by decide +kernel
theorem dX8_areWords_37 : decode cX8_areWords 37 = .ok (.aload_n 0, 1) := by decide +kernel
theorem dX8_areWords_38 : decode cX8_areWords 38 = .ok (.getfield 32, 3) := by decide +kernel
theorem dX8_areWords_41 : decode cX8_areWords 41 = .ok (.aload_n 0, 1) := by decide +kernel
theorem dX8_areWords_42 : decode cX8_areWords 42 = .ok (.getfield 54, 3) := by decide +kernel
theorem dX8_areWords_45 : decode cX8_areWords 45 = .ok (.iload 4, 2) := by decide +kernel
theorem dX8_areWords_47 : decode cX8_areWords 47 = .ok (.invokevirtual 207, 3) := by decide +kernel
theorem dX8_areWords_50 : decode cX8_areWords 50 = .ok (.iload 5, 2) := by decide +kernel
theorem dX8_areWords_52 : decode cX8_areWords 52 = .ok (.invokevirtual 147, 3) := by decide +kernel
theorem dX8_areWords_55 : decode cX8_areWords 55 = .ok (.ifCond .ne 5, 3) := by decide +kernel
theorem dX8_areWords_58 : decode cX8_areWords 58 = .ok (.iconst 0, 1) := by decide +kernel
theorem dX8_areWords_59 : decode cX8_areWords 59 = .ok (.ireturn, 1) := by decide +kernel
theorem dX8_areWords_60 : decode cX8_areWords 60 = .ok (.iinc 4 1, 3) := by decide +kernel
theorem dX8_areWords_63 : decode cX8_areWords 63 = .ok (.goto (-60), 3) := by decide +kernel
theorem dX8_areWords_66 : decode cX8_areWords 66 = .ok (.iconst 1, 1) := by decide +kernel
theorem dX8_areWords_67 : decode cX8_areWords 67 = .ok (.ireturn, 1) := by decide +kernel
theorem dX8_choice_0 : decode cX8_choice 0 = .ok (.aload_n 0, 1) := by decide +kernel
theorem dX8_choice_1 : decode cX8_choice 1 = .ok (.getfield 54, 3) := by decide +kernel
theorem dX8_choice_4 : decode cX8_choice 4 = .ok (.iload_n 1, 1) := by decide +kernel
theorem dX8_choice_5 : decode cX8_choice 5 = .ok (.invokevirtual 210, 3) := by decide +kernel
theorem dX8_choice_8 : decode cX8_choice 8 = .ok (.ifCond .ne 5, 3) := by decide +kernel
theorem dX8_choice_11 : decode cX8_choice 11 = .ok (.iconst (-1), 1) := by decide +kernel
theorem dX8_choice_12 : decode cX8_choice 12 = .ok (.ireturn, 1) := by decide +kernel
theorem dX8_choice_13 : decode cX8_choice 13 = .ok (.iload_n 2, 1) := by decide +kernel
theorem dX8_choice_14 : decode cX8_choice 14 = .ok (.ifCond .lt 14, 3) := by decide +kernel
theorem dX8_choice_17 : decode cX8_choice 17 = .ok (.iload_n 2, 1) := by decide +kernel
theorem dX8_choice_18 : decode cX8_choice 18 = .ok (.aload_n 0, 1) := by decide +kernel
theorem dX8_choice_19 : decode cX8_choice 19 = .ok (.getfield 32, 3) := by decide +kernel
theorem dX8_choice_22 : decode cX8_choice 22 = .ok (.getfield 213, 3) := by decide +kernel
theorem dX8_choice_25 : decode cX8_choice 25 = .ok (.if_icmp .le 6, 3) := by decide +kernel
theorem dX8_choice_28 : decode cX8_choice 28 = .ok (.bipush (-2), 2) := by decide +kernel
theorem dX8_choice_30 : decode cX8_choice 30 = .ok (.ireturn, 1) := by decide +kernel
theorem dX8_choice_31 : decode cX8_choice 31 = .ok (.aload_n 0, 1) := by decide +kernel
theorem dX8_choice_32 : decode cX8_choice 32 = .ok (.invokevirtual 216, 3) := by decide +kernel
theorem dX8_choice_35 : decode cX8_choice 35 = .ok (.aload_n 0, 1) := by decide +kernel
theorem dX8_choice_36 : decode cX8_choice 36 = .ok (.getfield 63, 3) := by decide +kernel
theorem dX8_choice_39 : decode cX8_choice 39 = .ok (.iload_n 1, 1) := by decide +kernel
theorem dX8_choice_40 : decode cX8_choice 40 = .ok (.iload_n 2, 1) := by decide +kernel
theorem dX8_choice_41 : decode cX8_choice 41 = .ok (.invokevirtual 219, 3) := by decide +kernel
theorem dX8_choice_44 : decode cX8_choice 44 = .ok (.ireturn, 1) := by decide +kernel
theorem dX8_says_0 : decode cX8_says 0 = .ok (.aload_n 0, 1) := by decide +kernel
theorem dX8_says_1 : decode cX8_says 1 = .ok (.getfield 54, 3) := by decide +kernel
theorem dX8_says_4 : decode cX8_says 4 = .ok (.iload_n 1, 1) := by decide +kernel
theorem dX8_says_5 : decode cX8_says 5 = .ok (.invokevirtual 210, 3) := by decide +kernel
theorem dX8_says_8 : decode cX8_says 8 = .ok (.ifCond .ne 5, 3) := by decide +kernel
theorem dX8_says_11 : decode cX8_says 11 = .ok (.iconst (-1), 1) := by decide +kernel
theorem dX8_says_12 : decode cX8_says 12 = .ok (.ireturn, 1) := by decide +kernel
theorem dX8_says_13 : decode cX8_says 13 = .ok (.aload_n 0, 1) := by decide +kernel
theorem dX8_says_14 : decode cX8_says 14 = .ok (.invokevirtual 216, 3) := by decide +kernel
theorem dX8_says_17 : decode cX8_says 17 = .ok (.aload_n 0, 1) := by decide +kernel
theorem dX8_says_18 : decode cX8_says 18 = .ok (.getfield 72, 3) := by decide +kernel
theorem dX8_says_21 : decode cX8_says 21 = .ok (.invokevirtual 222, 3) := by decide +kernel
theorem dX8_says_24 : decode cX8_says 24 = .ok (.aload_n 0, 1) := by decide +kernel
theorem dX8_says_25 : decode cX8_says 25 = .ok (.getfield 72, 3) := by decide +kernel
theorem dX8_says_28 : decode cX8_says 28 = .ok (.iload_n 1, 1) := by decide +kernel
theorem dX8_says_29 : decode cX8_says 29 = .ok (.invokevirtual 225, 3) := by decide +kernel
theorem dX8_says_32 : decode cX8_says 32 = .ok (.ireturn, 1) := by decide +kernel
theorem dX8_together_0 : decode cX8_together 0 = .ok (.iload_n 1, 1) := by decide +kernel
theorem dX8_together_1 : decode cX8_together 1 = .ok (.iconst (-1), 1) := by decide +kernel
theorem dX8_together_2 : decode cX8_together 2 = .ok (.if_icmp .eq 16, 3) := by decide +kernel
theorem dX8_together_5 : decode cX8_together 5 = .ok (.aload_n 0, 1) := by decide +kernel
theorem dX8_together_6 : decode cX8_together 6 = .ok (.getfield 54, 3) := by decide +kernel
theorem dX8_together_9 : decode cX8_together 9 = .ok (.iload_n 1, 1) := by decide +kernel
theorem dX8_together_10 : decode cX8_together 10 = .ok (.invokevirtual 210, 3) := by decide +kernel
theorem dX8_together_13 : decode cX8_together 13 = .ok (.ifCond .ne 5, 3) := by decide +kernel
theorem dX8_together_16 : decode cX8_together 16 = .ok (.iconst (-1), 1) := by decide +kernel
theorem dX8_together_17 : decode cX8_together 17 = .ok (.ireturn, 1) := by decide +kernel
theorem dX8_together_18 : decode cX8_together 18 = .ok (.aload_n 0, 1) := by decide +kernel
theorem dX8_together_19 : decode cX8_together 19 = .ok (.getfield 32, 3) := by decide +kernel
theorem dX8_together_22 : decode cX8_together 22 = .ok (.getfield 132, 3) := by decide +kernel
theorem dX8_together_25 : decode cX8_together 25 = .ok (.ifCond .ne 6, 3) := by decide +kernel
theorem dX8_together_28 : decode cX8_together 28 = .ok (.bipush (-3), 2) := by decide +kernel
theorem dX8_together_30 : decode cX8_together 30 = .ok (.ireturn, 1) := by decide +kernel
theorem dX8_together_31 : decode cX8_together 31 = .ok (.aload_n 0, 1) := by decide +kernel
theorem dX8_together_32 : decode cX8_together 32 = .ok (.getfield 76, 3) := by decide +kernel
theorem dX8_together_35 : decode cX8_together 35 = .ok (.aload_n 0, 1) := by decide +kernel
theorem dX8_together_36 : decode cX8_together 36 = .ok (.getfield 54, 3) := by decide +kernel
theorem dX8_together_39 : decode cX8_together 39 = .ok (.invokevirtual 231, 3) := by decide +kernel
theorem dX8_together_42 : decode cX8_together 42 = .ok (.aload_n 0, 1) := by decide +kernel
theorem dX8_together_43 : decode cX8_together 43 = .ok (.getfield 79, 3) := by decide +kernel
theorem dX8_together_46 : decode cX8_together 46 = .ok (.invokevirtual 234, 3) := by decide +kernel
theorem dX8_together_49 : decode cX8_together 49 = .ok (.aload_n 0, 1) := by decide +kernel
theorem dX8_together_50 : decode cX8_together 50 = .ok (.getfield 82, 3) := by decide +kernel
theorem dX8_together_53 : decode cX8_together 53 = .ok (.invokevirtual 222, 3) := by decide +kernel
theorem dX8_together_56 : decode cX8_together 56 = .ok (.iload_n 1, 1) := by decide +kernel
theorem dX8_together_57 : decode cX8_together 57 = .ok (.iconst (-1), 1) := by decide +kernel
theorem dX8_together_58 : decode cX8_together 58 = .ok (.if_icmp .ne 16, 3) := by decide +kernel
theorem dX8_together_61 : decode cX8_together 61 = .ok (.aload_n 0, 1) := by decide +kernel
theorem dX8_together_62 : decode cX8_together 62 = .ok (.getfield 82, 3) := by decide +kernel
theorem dX8_together_65 : decode cX8_together 65 = .ok (.getfield 185, 3) := by decide +kernel
theorem dX8_together_68 : decode cX8_together 68 = .ok (.invokestatic 237, 3) := by decide +kernel
theorem dX8_together_71 : decode cX8_together 71 = .ok (.goto 11, 3) := by decide +kernel
theorem dX8_together_74 : decode cX8_together 74 = .ok (.aload_n 0, 1) := by decide +kernel
theorem dX8_together_75 : decode cX8_together 75 = .ok (.getfield 82, 3) := by decide +kernel
theorem dX8_together_78 : decode cX8_together 78 = .ok (.iload_n 1, 1) := by decide +kernel
theorem dX8_together_79 : decode cX8_together 79 = .ok (.invokevirtual 225, 3) := by decide +kernel
theorem dX8_together_82 : decode cX8_together 82 = .ok (.ireturn, 1) := by decide +kernel
theorem dX8_planAhead_0 : decode cX8_planAhead 0 = .ok (.aload_n 0, 1) := by decide +kernel
theorem dX8_planAhead_1 : decode cX8_planAhead 1 = .ok (.getfield 11, 3) := by decide +kernel
theorem dX8_planAhead_4 : decode cX8_planAhead 4 = .ok (.ifCond .ne 15, 3) := by decide +kernel
theorem dX8_planAhead_7 : decode cX8_planAhead 7 = .ok (.aload_n 0, 1) := by decide +kernel
theorem dX8_planAhead_8 : decode cX8_planAhead 8 = .ok (.getfield 63, 3) := by decide +kernel
theorem dX8_planAhead_11 : decode cX8_planAhead 11 = .ok (.invokevirtual 241, 3) := by decide +kernel
theorem dX8_planAhead_14 : decode cX8_planAhead 14 = .ok (.aload_n 0, 1) := by decide +kernel
theorem dX8_planAhead_15 : decode cX8_planAhead 15 = .ok (.iconst 1, 1) := by decide +kernel
theorem dX8_planAhead_16 : decode cX8_planAhead 16 = .ok (.putfield 11, 3) := by decide +kernel
theorem dX8_planAhead_19 : decode cX8_planAhead 19 = .ok (.return_, 1) := by decide +kernel
theorem dX8_owed_0 : decode cX8_owed 0 = .ok (.aload_n 0, 1) := by decide +kernel
theorem dX8_owed_1 : decode cX8_owed 1 = .ok (.iload_n 1, 1) := by decide +kernel
theorem dX8_owed_2 : decode cX8_owed 2 = .ok (.iload_n 2, 1) := by decide +kernel
theorem dX8_owed_3 : decode cX8_owed 3 = .ok (.invokevirtual 244, 3) := by decide +kernel
theorem dX8_owed_6 : decode cX8_owed 6 = .ok (.ifCond .ne 7, 3) := by decide +kernel
theorem dX8_owed_9 : decode cX8_owed 9 = .ok (.ldc2_w 247, 3) := by decide +kernel
theorem dX8_owed_12 : decode cX8_owed 12 = .ok (.lreturn, 1) := by decide +kernel
theorem dX8_owed_13 : decode cX8_owed 13 = .ok (.aload_n 0, 1) := by decide +kernel
theorem dX8_owed_14 : decode cX8_owed 14 = .ok (.getfield 54, 3) := by decide +kernel
theorem dX8_owed_17 : decode cX8_owed 17 = .ok (.iload_n 1, 1) := by decide +kernel
theorem dX8_owed_18 : decode cX8_owed 18 = .ok (.invokevirtual 145, 3) := by decide +kernel
theorem dX8_owed_21 : decode cX8_owed 21 = .ok (.istore_n 3, 1) := by decide +kernel
theorem dX8_owed_22 : decode cX8_owed 22 = .ok (.aload_n 0, 1) := by decide +kernel
theorem dX8_owed_23 : decode cX8_owed 23 = .ok (.invokevirtual 216, 3) := by decide +kernel
theorem dX8_owed_26 : decode cX8_owed 26 = .ok (.aload_n 0, 1) := by decide +kernel
theorem dX8_owed_27 : decode cX8_owed 27 = .ok (.getfield 72, 3) := by decide +kernel
theorem dX8_owed_30 : decode cX8_owed 30 = .ok (.iload_n 3, 1) := by decide +kernel
theorem dX8_owed_31 : decode cX8_owed 31 = .ok (.bipush (-9), 2) := by decide +kernel
theorem dX8_owed_33 : decode cX8_owed 33 = .ok (.invokevirtual 249, 3) := by decide +kernel
theorem dX8_owed_36 : decode cX8_owed 36 = .ok (.aload_n 0, 1) := by decide +kernel
theorem dX8_owed_37 : decode cX8_owed 37 = .ok (.getfield 72, 3) := by decide +kernel
theorem dX8_owed_40 : decode cX8_owed 40 = .ok (.getfield 185, 3) := by decide +kernel
theorem dX8_owed_43 : decode cX8_owed 43 = .ok (.iload_n 2, 1) := by decide +kernel
theorem dX8_owed_44 : decode cX8_owed 44 = .ok (.invokestatic 101, 3) := by decide +kernel
theorem dX8_owed_47 : decode cX8_owed 47 = .ok (.istore 4, 2) := by decide +kernel
theorem dX8_owed_49 : decode cX8_owed 49 = .ok (.aload_n 0, 1) := by decide +kernel
theorem dX8_owed_50 : decode cX8_owed 50 = .ok (.getfield 72, 3) := by decide +kernel
theorem dX8_owed_53 : decode cX8_owed 53 = .ok (.iload_n 3, 1) := by decide +kernel
theorem dX8_owed_54 : decode cX8_owed 54 = .ok (.aload_n 0, 1) := by decide +kernel
theorem dX8_owed_55 : decode cX8_owed 55 = .ok (.getfield 32, 3) := by decide +kernel
theorem dX8_owed_58 : decode cX8_owed 58 = .ok (.iload_n 1, 1) := by decide +kernel
theorem dX8_owed_59 : decode cX8_owed 59 = .ok (.aload_n 0, 1) := by decide +kernel
theorem dX8_owed_60 : decode cX8_owed 60 = .ok (.getfield 72, 3) := by decide +kernel
theorem dX8_owed_63 : decode cX8_owed 63 = .ok (.iload_n 3, 1) := by decide +kernel
theorem dX8_owed_64 : decode cX8_owed 64 = .ok (.invokevirtual 228, 3) := by decide +kernel
theorem dX8_owed_67 : decode cX8_owed 67 = .ok (.invokevirtual 252, 3) := by decide +kernel
theorem dX8_owed_70 : decode cX8_owed 70 = .ok (.invokevirtual 249, 3) := by decide +kernel
theorem dX8_owed_73 : decode cX8_owed 73 = .ok (.iload 4, 2) := by decide +kernel
theorem dX8_owed_75 : decode cX8_owed 75 = .ok (.aload_n 0, 1) := by decide +kernel
theorem dX8_owed_76 : decode cX8_owed 76 = .ok (.getfield 72, 3) := by decide +kernel
theorem dX8_owed_79 : decode cX8_owed 79 = .ok (.getfield 185, 3) := by decide +kernel
theorem dX8_owed_82 : decode cX8_owed 82 = .ok (.iload_n 2, 1) := by decide +kernel
theorem dX8_owed_83 : decode cX8_owed 83 = .ok (.invokestatic 101, 3) := by decide +kernel
theorem dX8_owed_86 : decode cX8_owed 86 = .ok (.isub, 1) := by decide +kernel
theorem dX8_owed_87 : decode cX8_owed 87 = .ok (.i2l, 1) := by decide +kernel
theorem dX8_owed_88 : decode cX8_owed 88 = .ok (.lreturn, 1) := by decide +kernel
theorem dX8_bargain_0 : decode cX8_bargain 0 = .ok (.aload_n 0, 1) := by decide +kernel
theorem dX8_bargain_1 : decode cX8_bargain 1 = .ok (.iload_n 1, 1) := by decide +kernel
theorem dX8_bargain_2 : decode cX8_bargain 2 = .ok (.iload_n 2, 1) := by decide +kernel
theorem dX8_bargain_3 : decode cX8_bargain 3 = .ok (.invokevirtual 244, 3) := by decide +kernel
theorem dX8_bargain_6 : decode cX8_bargain 6 = .ok (.ifCond .ne 7, 3) := by decide +kernel
theorem dX8_bargain_9 : decode cX8_bargain 9 = .ok (.ldc2_w 247, 3) := by decide +kernel
theorem dX8_bargain_12 : decode cX8_bargain 12 = .ok (.lreturn, 1) := by decide +kernel
theorem dX8_bargain_13 : decode cX8_bargain 13 = .ok (.aload_n 0, 1) := by decide +kernel
theorem dX8_bargain_14 : decode cX8_bargain 14 = .ok (.invokevirtual 216, 3) := by decide +kernel
theorem dX8_bargain_17 : decode cX8_bargain 17 = .ok (.aload_n 0, 1) := by decide +kernel
theorem dX8_bargain_18 : decode cX8_bargain 18 = .ok (.getfield 72, 3) := by decide +kernel
theorem dX8_bargain_21 : decode cX8_bargain 21 = .ok (.aload_n 0, 1) := by decide +kernel
theorem dX8_bargain_22 : decode cX8_bargain 22 = .ok (.getfield 54, 3) := by decide +kernel
theorem dX8_bargain_25 : decode cX8_bargain 25 = .ok (.iload_n 1, 1) := by decide +kernel
theorem dX8_bargain_26 : decode cX8_bargain 26 = .ok (.invokevirtual 145, 3) := by decide +kernel
theorem dX8_bargain_29 : decode cX8_bargain 29 = .ok (.bipush (-9), 2) := by decide +kernel
theorem dX8_bargain_31 : decode cX8_bargain 31 = .ok (.invokevirtual 249, 3) := by decide +kernel
theorem dX8_bargain_34 : decode cX8_bargain 34 = .ok (.aload_n 0, 1) := by decide +kernel
theorem dX8_bargain_35 : decode cX8_bargain 35 = .ok (.getfield 72, 3) := by decide +kernel
theorem dX8_bargain_38 : decode cX8_bargain 38 = .ok (.getfield 185, 3) := by decide +kernel
theorem dX8_bargain_41 : decode cX8_bargain 41 = .ok (.iload_n 1, 1) := by decide +kernel
theorem dX8_bargain_42 : decode cX8_bargain 42 = .ok (.invokestatic 101, 3) := by decide +kernel
theorem dX8_bargain_45 : decode cX8_bargain 45 = .ok (.aload_n 0, 1) := by decide +kernel
theorem dX8_bargain_46 : decode cX8_bargain 46 = .ok (.getfield 72, 3) := by decide +kernel
theorem dX8_bargain_49 : decode cX8_bargain 49 = .ok (.getfield 185, 3) := by decide +kernel
theorem dX8_bargain_52 : decode cX8_bargain 52 = .ok (.iload_n 2, 1) := by decide +kernel
theorem dX8_bargain_53 : decode cX8_bargain 53 = .ok (.invokestatic 101, 3) := by decide +kernel
theorem dX8_bargain_56 : decode cX8_bargain 56 = .ok (.iadd, 1) := by decide +kernel
theorem dX8_bargain_57 : decode cX8_bargain 57 = .ok (.istore_n 3, 1) := by decide +kernel
theorem dX8_bargain_58 : decode cX8_bargain 58 = .ok (.aload_n 0, 1) := by decide +kernel
theorem dX8_bargain_59 : decode cX8_bargain 59 = .ok (.getfield 72, 3) := by decide +kernel
theorem dX8_bargain_62 : decode cX8_bargain 62 = .ok (.invokevirtual 222, 3) := by decide +kernel
theorem dX8_bargain_65 : decode cX8_bargain 65 = .ok (.iload_n 3, 1) := by decide +kernel
theorem dX8_bargain_66 : decode cX8_bargain 66 = .ok (.aload_n 0, 1) := by decide +kernel
theorem dX8_bargain_67 : decode cX8_bargain 67 = .ok (.getfield 72, 3) := by decide +kernel
theorem dX8_bargain_70 : decode cX8_bargain 70 = .ok (.getfield 185, 3) := by decide +kernel
theorem dX8_bargain_73 : decode cX8_bargain 73 = .ok (.iload_n 1, 1) := by decide +kernel
theorem dX8_bargain_74 : decode cX8_bargain 74 = .ok (.invokestatic 101, 3) := by decide +kernel
theorem dX8_bargain_77 : decode cX8_bargain 77 = .ok (.isub, 1) := by decide +kernel
theorem dX8_bargain_78 : decode cX8_bargain 78 = .ok (.aload_n 0, 1) := by decide +kernel
theorem dX8_bargain_79 : decode cX8_bargain 79 = .ok (.getfield 72, 3) := by decide +kernel
theorem dX8_bargain_82 : decode cX8_bargain 82 = .ok (.getfield 185, 3) := by decide +kernel
theorem dX8_bargain_85 : decode cX8_bargain 85 = .ok (.iload_n 2, 1) := by decide +kernel
theorem dX8_bargain_86 : decode cX8_bargain 86 = .ok (.invokestatic 101, 3) := by decide +kernel
theorem dX8_bargain_89 : decode cX8_bargain 89 = .ok (.isub, 1) := by decide +kernel
theorem dX8_bargain_90 : decode cX8_bargain 90 = .ok (.i2l, 1) := by decide +kernel
theorem dX8_bargain_91 : decode cX8_bargain 91 = .ok (.lreturn, 1) := by decide +kernel
theorem dX8_areTwo_0 : decode cX8_areTwo 0 = .ok (.aload_n 0, 1) := by decide +kernel
theorem dX8_areTwo_1 : decode cX8_areTwo 1 = .ok (.getfield 32, 3) := by decide +kernel
theorem dX8_areTwo_4 : decode cX8_areTwo 4 = .ok (.iload_n 1, 1) := by decide +kernel
theorem dX8_areTwo_5 : decode cX8_areTwo 5 = .ok (.invokevirtual 135, 3) := by decide +kernel
theorem dX8_areTwo_8 : decode cX8_areTwo 8 = .ok (.ifCond .eq 23, 3) := by decide +kernel
theorem dX8_areTwo_11 : decode cX8_areTwo 11 = .ok (.aload_n 0, 1) := by decide +kernel
theorem dX8_areTwo_12 : decode cX8_areTwo 12 = .ok (.getfield 32, 3) := by decide +kernel
theorem dX8_areTwo_15 : decode cX8_areTwo 15 = .ok (.iload_n 2, 1) := by decide +kernel
theorem dX8_areTwo_16 : decode cX8_areTwo 16 = .ok (.invokevirtual 135, 3) := by decide +kernel
theorem dX8_areTwo_19 : decode cX8_areTwo 19 = .ok (.ifCond .eq 12, 3) := by decide +kernel
theorem dX8_areTwo_22 : decode cX8_areTwo 22 = .ok (.iload_n 1, 1) := by decide +kernel
theorem dX8_areTwo_23 : decode cX8_areTwo 23 = .ok (.iload_n 2, 1) := by decide +kernel
theorem dX8_areTwo_24 : decode cX8_areTwo 24 = .ok (.if_icmp .eq 7, 3) := by decide +kernel
theorem dX8_areTwo_27 : decode cX8_areTwo 27 = .ok (.iconst 1, 1) := by decide +kernel
theorem dX8_areTwo_28 : decode cX8_areTwo 28 = .ok (.goto 4, 3) := by decide +kernel
theorem dX8_areTwo_31 : decode cX8_areTwo 31 = .ok (.iconst 0, 1) := by decide +kernel
theorem dX8_areTwo_32 : decode cX8_areTwo 32 = .ok (.ireturn, 1) := by decide +kernel
theorem dX8_motion_0 : decode cX8_motion 0 = .ok (.aload_n 0, 1) := by decide +kernel
theorem dX8_motion_1 : decode cX8_motion 1 = .ok (.getfield 32, 3) := by decide +kernel
theorem dX8_motion_4 : decode cX8_motion 4 = .ok (.iload_n 1, 1) := by decide +kernel
theorem dX8_motion_5 : decode cX8_motion 5 = .ok (.iload_n 2, 1) := by decide +kernel
theorem dX8_motion_6 : decode cX8_motion 6 = .ok (.invokevirtual 147, 3) := by decide +kernel
theorem dX8_motion_9 : decode cX8_motion 9 = .ok (.ifCond .eq 19, 3) := by decide +kernel
theorem dX8_motion_12 : decode cX8_motion 12 = .ok (.iload_n 3, 1) := by decide +kernel
theorem dX8_motion_13 : decode cX8_motion 13 = .ok (.iconst (-1), 1) := by decide +kernel
theorem dX8_motion_14 : decode cX8_motion 14 = .ok (.if_icmp .lt 14, 3) := by decide +kernel
theorem dX8_motion_17 : decode cX8_motion 17 = .ok (.iload_n 3, 1) := by decide +kernel
theorem dX8_motion_18 : decode cX8_motion 18 = .ok (.aload_n 0, 1) := by decide +kernel
theorem dX8_motion_19 : decode cX8_motion 19 = .ok (.getfield 32, 3) := by decide +kernel
theorem dX8_motion_22 : decode cX8_motion 22 = .ok (.getfield 132, 3) := by decide +kernel
theorem dX8_motion_25 : decode cX8_motion 25 = .ok (.if_icmp .lt 5, 3) := by decide +kernel
theorem dX8_motion_28 : decode cX8_motion 28 = .ok (.iconst (-1), 1) := by decide +kernel
theorem dX8_motion_29 : decode cX8_motion 29 = .ok (.ireturn, 1) := by decide +kernel
theorem dX8_motion_30 : decode cX8_motion 30 = .ok (.aload_n 0, 1) := by decide +kernel
theorem dX8_motion_31 : decode cX8_motion 31 = .ok (.getfield 97, 3) := by decide +kernel
theorem dX8_motion_34 : decode cX8_motion 34 = .ok (.invokevirtual 255, 3) := by decide +kernel
theorem dX8_motion_37 : decode cX8_motion 37 = .ok (.aload_n 0, 1) := by decide +kernel
theorem dX8_motion_38 : decode cX8_motion 38 = .ok (.getfield 97, 3) := by decide +kernel
theorem dX8_motion_41 : decode cX8_motion 41 = .ok (.iload_n 1, 1) := by decide +kernel
theorem dX8_motion_42 : decode cX8_motion 42 = .ok (.iload_n 2, 1) := by decide +kernel
theorem dX8_motion_43 : decode cX8_motion 43 = .ok (.invokevirtual 258, 3) := by decide +kernel
theorem dX8_motion_46 : decode cX8_motion 46 = .ok (.ifCond .ne 6, 3) := by decide +kernel
theorem dX8_motion_49 : decode cX8_motion 49 = .ok (.bipush (-9), 2) := by decide +kernel
theorem dX8_motion_51 : decode cX8_motion 51 = .ok (.ireturn, 1) := by decide +kernel
theorem dX8_motion_52 : decode cX8_motion 52 = .ok (.iload_n 3, 1) := by decide +kernel
theorem dX8_motion_53 : decode cX8_motion 53 = .ok (.iconst (-1), 1) := by decide +kernel
theorem dX8_motion_54 : decode cX8_motion 54 = .ok (.if_icmp .ne 15, 3) := by decide +kernel
theorem dX8_motion_57 : decode cX8_motion 57 = .ok (.aload_n 0, 1) := by decide +kernel
theorem dX8_motion_58 : decode cX8_motion 58 = .ok (.getfield 97, 3) := by decide +kernel
theorem dX8_motion_61 : decode cX8_motion 61 = .ok (.iload_n 1, 1) := by decide +kernel
theorem dX8_motion_62 : decode cX8_motion 62 = .ok (.iload_n 2, 1) := by decide +kernel
theorem dX8_motion_63 : decode cX8_motion 63 = .ok (.invokevirtual 261, 3) := by decide +kernel
theorem dX8_motion_66 : decode cX8_motion 66 = .ok (.goto 13, 3) := by decide +kernel
theorem dX8_motion_69 : decode cX8_motion 69 = .ok (.aload_n 0, 1) := by decide +kernel
theorem dX8_motion_70 : decode cX8_motion 70 = .ok (.getfield 97, 3) := by decide +kernel
theorem dX8_motion_73 : decode cX8_motion 73 = .ok (.iload_n 1, 1) := by decide +kernel
theorem dX8_motion_74 : decode cX8_motion 74 = .ok (.iload_n 2, 1) := by decide +kernel
theorem dX8_motion_75 : decode cX8_motion 75 = .ok (.iload_n 3, 1) := by decide +kernel
theorem dX8_motion_76 : decode cX8_motion 76 = .ok (.invokevirtual 264, 3) := by decide +kernel
theorem dX8_motion_79 : decode cX8_motion 79 = .ok (.ireturn, 1) := by decide +kernel
theorem dX8_dry_0 : decode cX8_dry 0 = .ok (.aload_n 0, 1) := by decide +kernel
theorem dX8_dry_1 : decode cX8_dry 1 = .ok (.getfield 32, 3) := by decide +kernel
theorem dX8_dry_4 : decode cX8_dry 4 = .ok (.iload_n 1, 1) := by decide +kernel
theorem dX8_dry_5 : decode cX8_dry 5 = .ok (.iload_n 2, 1) := by decide +kernel
theorem dX8_dry_6 : decode cX8_dry 6 = .ok (.invokevirtual 147, 3) := by decide +kernel
theorem dX8_dry_9 : decode cX8_dry 9 = .ok (.ifCond .ne 5, 3) := by decide +kernel
theorem dX8_dry_12 : decode cX8_dry 12 = .ok (.iconst (-1), 1) := by decide +kernel
theorem dX8_dry_13 : decode cX8_dry 13 = .ok (.ireturn, 1) := by decide +kernel
