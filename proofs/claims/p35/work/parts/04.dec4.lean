theorem dL_but_7 : decode cL_but 7 = .ok (.invokestatic 47, 3) := by decide +kernel
theorem dL_but_10 : decode cL_but 10 = .ok (.istore 7, 2) := by decide +kernel
theorem dL_but_12 : decode cL_but 12 = .ok (.iconst 0, 1) := by decide +kernel
theorem dL_but_13 : decode cL_but 13 = .ok (.istore 8, 2) := by decide +kernel
theorem dL_but_15 : decode cL_but 15 = .ok (.iload 8, 2) := by decide +kernel
theorem dL_but_17 : decode cL_but 17 = .ok (.aload_n 0, 1) := by decide +kernel
theorem dL_but_18 : decode cL_but 18 = .ok (.invokestatic 36, 3) := by decide +kernel
theorem dL_but_21 : decode cL_but 21 = .ok (.if_icmp .ge 154, 3) := by decide +kernel
theorem dL_but_24 : decode cL_but 24 = .ok (.aload_n 0, 1) := by decide +kernel
theorem dL_but_25 : decode cL_but 25 = .ok (.iload 8, 2) := by decide +kernel
theorem dL_but_27 : decode cL_but 27 = .ok (.invokestatic 33, 3) := by decide +kernel
theorem dL_but_30 : decode cL_but 30 = .ok (.istore 9, 2) := by decide +kernel
theorem dL_but_32 : decode cL_but 32 = .ok (.iload 8, 2) := by decide +kernel
theorem dL_but_34 : decode cL_but 34 = .ok (.iload 4, 2) := by decide +kernel
theorem dL_but_36 : decode cL_but 36 = .ok (.if_icmp .ne 8, 3) := by decide +kernel
theorem dL_but_39 : decode cL_but 39 = .ok (.iload 5, 2) := by decide +kernel
theorem dL_but_41 : decode cL_but 41 = .ok (.goto 12, 3) := by decide +kernel
theorem dL_but_44 : decode cL_but 44 = .ok (.aload_n 2, 1) := by decide +kernel
theorem dL_but_45 : decode cL_but 45 = .ok (.aload_n 3, 1) := by decide +kernel
theorem dL_but_46 : decode cL_but 46 = .ok (.iload 8, 2) := by decide +kernel
theorem dL_but_48 : decode cL_but 48 = .ok (.iload 7, 2) := by decide +kernel
theorem dL_but_50 : decode cL_but 50 = .ok (.invokestatic 43, 3) := by decide +kernel
theorem dL_but_53 : decode cL_but 53 = .ok (.istore 10, 2) := by decide +kernel
theorem dL_but_55 : decode cL_but 55 = .ok (.bipush 9, 2) := by decide +kernel
theorem dL_but_57 : decode cL_but 57 = .ok (.iload 9, 2) := by decide +kernel
theorem dL_but_59 : decode cL_but 59 = .ok (.imul, 1) := by decide +kernel
theorem dL_but_60 : decode cL_but 60 = .ok (.iconst 3, 1) := by decide +kernel
theorem dL_but_61 : decode cL_but 61 = .ok (.iload 10, 2) := by decide +kernel
theorem dL_but_63 : decode cL_but 63 = .ok (.imul, 1) := by decide +kernel
theorem dL_but_64 : decode cL_but 64 = .ok (.iadd, 1) := by decide +kernel
theorem dL_but_65 : decode cL_but 65 = .ok (.istore 11, 2) := by decide +kernel
theorem dL_but_67 : decode cL_but 67 = .ok (.aload 6, 2) := by decide +kernel
theorem dL_but_69 : decode cL_but 69 = .ok (.bipush 6, 2) := by decide +kernel
theorem dL_but_71 : decode cL_but 71 = .ok (.iload 8, 2) := by decide +kernel
theorem dL_but_73 : decode cL_but 73 = .ok (.iadd, 1) := by decide +kernel
theorem dL_but_74 : decode cL_but 74 = .ok (.iload 10, 2) := by decide +kernel
theorem dL_but_76 : decode cL_but 76 = .ok (.iastore, 1) := by decide +kernel
theorem dL_but_77 : decode cL_but 77 = .ok (.iload 10, 2) := by decide +kernel
theorem dL_but_79 : decode cL_but 79 = .ok (.ifCond .lt 18, 3) := by decide +kernel
theorem dL_but_82 : decode cL_but 82 = .ok (.aload_n 1, 1) := by decide +kernel
theorem dL_but_83 : decode cL_but 83 = .ok (.iload 11, 2) := by decide +kernel
theorem dL_but_85 : decode cL_but 85 = .ok (.iaload, 1) := by decide +kernel
theorem dL_but_86 : decode cL_but 86 = .ok (.iload 7, 2) := by decide +kernel
theorem dL_but_88 : decode cL_but 88 = .ok (.if_icmp .le 9, 3) := by decide +kernel
theorem dL_but_91 : decode cL_but 91 = .ok (.iconst 0, 1) := by decide +kernel
theorem dL_but_92 : decode cL_but 92 = .ok (.istore 7, 2) := by decide +kernel
theorem dL_but_94 : decode cL_but 94 = .ok (.goto 64, 3) := by decide +kernel
theorem dL_but_97 : decode cL_but 97 = .ok (.iload 10, 2) := by decide +kernel
theorem dL_but_99 : decode cL_but 99 = .ok (.ifCond .lt 59, 3) := by decide +kernel
theorem dL_but_102 : decode cL_but 102 = .ok (.iload 7, 2) := by decide +kernel
theorem dL_but_104 : decode cL_but 104 = .ok (.aload_n 1, 1) := by decide +kernel
theorem dL_but_105 : decode cL_but 105 = .ok (.iload 11, 2) := by decide +kernel
theorem dL_but_107 : decode cL_but 107 = .ok (.iaload, 1) := by decide +kernel
theorem dL_but_108 : decode cL_but 108 = .ok (.isub, 1) := by decide +kernel
theorem dL_but_109 : decode cL_but 109 = .ok (.istore 7, 2) := by decide +kernel
theorem dL_but_111 : decode cL_but 111 = .ok (.iconst 0, 1) := by decide +kernel
theorem dL_but_112 : decode cL_but 112 = .ok (.istore 12, 2) := by decide +kernel
theorem dL_but_114 : decode cL_but 114 = .ok (.iload 12, 2) := by decide +kernel
theorem dL_but_116 : decode cL_but 116 = .ok (.aload_n 0, 1) := by decide +kernel
theorem dL_but_117 : decode cL_but 117 = .ok (.iconst 0, 1) := by decide +kernel
theorem dL_but_118 : decode cL_but 118 = .ok (.iaload, 1) := by decide +kernel
theorem dL_but_119 : decode cL_but 119 = .ok (.if_icmp .ge 39, 3) := by decide +kernel
theorem dL_but_122 : decode cL_but 122 = .ok (.aload 6, 2) := by decide +kernel
theorem dL_but_124 : decode cL_but 124 = .ok (.iload 12, 2) := by decide +kernel
theorem dL_but_126 : decode cL_but 126 = .ok (.dup2, 1) := by decide +kernel
theorem dL_but_127 : decode cL_but 127 = .ok (.iaload, 1) := by decide +kernel
theorem dL_but_128 : decode cL_but 128 = .ok (.iload 12, 2) := by decide +kernel
theorem dL_but_130 : decode cL_but 130 = .ok (.iload 9, 2) := by decide +kernel
theorem dL_but_132 : decode cL_but 132 = .ok (.if_icmp .ne 12, 3) := by decide +kernel
theorem dL_but_135 : decode cL_but 135 = .ok (.aload_n 1, 1) := by decide +kernel
theorem dL_but_136 : decode cL_but 136 = .ok (.iload 11, 2) := by decide +kernel
theorem dL_but_138 : decode cL_but 138 = .ok (.iconst 1, 1) := by decide +kernel
theorem dL_but_139 : decode cL_but 139 = .ok (.iadd, 1) := by decide +kernel
theorem dL_but_140 : decode cL_but 140 = .ok (.iaload, 1) := by decide +kernel
theorem dL_but_141 : decode cL_but 141 = .ok (.goto 9, 3) := by decide +kernel
theorem dL_but_144 : decode cL_but 144 = .ok (.aload_n 1, 1) := by decide +kernel
theorem dL_but_145 : decode cL_but 145 = .ok (.iload 11, 2) := by decide +kernel
theorem dL_but_147 : decode cL_but 147 = .ok (.iconst 2, 1) := by decide +kernel
theorem dL_but_148 : decode cL_but 148 = .ok (.iadd, 1) := by decide +kernel
theorem dL_but_149 : decode cL_but 149 = .ok (.iaload, 1) := by decide +kernel
theorem dL_but_150 : decode cL_but 150 = .ok (.iadd, 1) := by decide +kernel
theorem dL_but_151 : decode cL_but 151 = .ok (.iastore, 1) := by decide +kernel
theorem dL_but_152 : decode cL_but 152 = .ok (.iinc 12 1, 3) := by decide +kernel
theorem dL_but_155 : decode cL_but 155 = .ok (.goto (-41), 3) := by decide +kernel
theorem dL_but_158 : decode cL_but 158 = .ok (.aload_n 0, 1) := by decide +kernel
theorem dL_but_159 : decode cL_but 159 = .ok (.iload 7, 2) := by decide +kernel
theorem dL_but_161 : decode cL_but 161 = .ok (.aload_n 0, 1) := by decide +kernel
theorem dL_but_162 : decode cL_but 162 = .ok (.iconst 2, 1) := by decide +kernel
theorem dL_but_163 : decode cL_but 163 = .ok (.iaload, 1) := by decide +kernel
theorem dL_but_164 : decode cL_but 164 = .ok (.invokestatic 29, 3) := by decide +kernel
theorem dL_but_167 : decode cL_but 167 = .ok (.istore 7, 2) := by decide +kernel
theorem dL_but_169 : decode cL_but 169 = .ok (.iinc 8 1, 3) := by decide +kernel
theorem dL_but_172 : decode cL_but 172 = .ok (.goto (-157), 3) := by decide +kernel
theorem dL_but_175 : decode cL_but 175 = .ok (.aload 6, 2) := by decide +kernel
theorem dL_but_177 : decode cL_but 177 = .ok (.iconst 5, 1) := by decide +kernel
theorem dL_but_178 : decode cL_but 178 = .ok (.iload 7, 2) := by decide +kernel
theorem dL_but_180 : decode cL_but 180 = .ok (.iastore, 1) := by decide +kernel
theorem dL_but_181 : decode cL_but 181 = .ok (.aload 6, 2) := by decide +kernel
theorem dL_but_183 : decode cL_but 183 = .ok (.areturn, 1) := by decide +kernel
theorem dL_law_0 : decode cL_law 0 = .ok (.new 20, 3) := by decide +kernel
theorem dL_law_3 : decode cL_law 3 = .ok (.dup, 1) := by decide +kernel
theorem dL_law_4 : decode cL_law 4 = .ok (.invokespecial 54, 3) := by decide +kernel
theorem dL_law_7 : decode cL_law 7 = .ok (.astore_n 1, 1) := by decide +kernel
theorem dL_law_8 : decode cL_law 8 = .ok (.bipush 44, 2) := by decide +kernel
theorem dL_law_10 : decode cL_law 10 = .ok (.newarray .int, 2) := by decide +kernel
theorem dL_law_12 : decode cL_law 12 = .ok (.astore_n 2, 1) := by decide +kernel
theorem dL_law_13 : decode cL_law 13 = .ok (.bipush 45, 2) := by decide +kernel
theorem dL_law_15 : decode cL_law 15 = .ok (.newarray .int, 2) := by decide +kernel
theorem dL_law_17 : decode cL_law 17 = .ok (.astore_n 3, 1) := by decide +kernel
theorem dL_law_18 : decode cL_law 18 = .ok (.aload_n 1, 1) := by decide +kernel
theorem dL_law_19 : decode cL_law 19 = .ok (.iconst 0, 1) := by decide +kernel
theorem dL_law_20 : decode cL_law 20 = .ok (.iconst 0, 1) := by decide +kernel
theorem dL_law_21 : decode cL_law 21 = .ok (.bipush 100, 2) := by decide +kernel
theorem dL_law_23 : decode cL_law 23 = .ok (.invokevirtual 55, 3) := by decide +kernel
theorem dL_law_26 : decode cL_law 26 = .ok (.iconst 1, 1) := by decide +kernel
theorem dL_law_27 : decode cL_law 27 = .ok (.if_icmp .ne 48, 3) := by decide +kernel
theorem dL_law_30 : decode cL_law 30 = .ok (.aload_n 1, 1) := by decide +kernel
theorem dL_law_31 : decode cL_law 31 = .ok (.iconst 1, 1) := by decide +kernel
theorem dL_law_32 : decode cL_law 32 = .ok (.iconst 1, 1) := by decide +kernel
theorem dL_law_33 : decode cL_law 33 = .ok (.bipush 7, 2) := by decide +kernel
theorem dL_law_35 : decode cL_law 35 = .ok (.invokevirtual 55, 3) := by decide +kernel
theorem dL_law_38 : decode cL_law 38 = .ok (.iconst 1, 1) := by decide +kernel
theorem dL_law_39 : decode cL_law 39 = .ok (.if_icmp .ne 36, 3) := by decide +kernel
theorem dL_law_42 : decode cL_law 42 = .ok (.aload_n 1, 1) := by decide +kernel
theorem dL_law_43 : decode cL_law 43 = .ok (.aload_n 2, 1) := by decide +kernel
theorem dL_law_44 : decode cL_law 44 = .ok (.aload_n 3, 1) := by decide +kernel
theorem dL_law_45 : decode cL_law 45 = .ok (.aload_n 0, 1) := by decide +kernel
theorem dL_law_46 : decode cL_law 46 = .ok (.iconst 0, 1) := by decide +kernel
theorem dL_law_47 : decode cL_law 47 = .ok (.iconst 4, 1) := by decide +kernel
theorem dL_law_48 : decode cL_law 48 = .ok (.aload_n 0, 1) := by decide +kernel
theorem dL_law_49 : decode cL_law 49 = .ok (.bipush 11, 2) := by decide +kernel
theorem dL_law_51 : decode cL_law 51 = .ok (.invokestatic 9, 3) := by decide +kernel
theorem dL_law_54 : decode cL_law 54 = .ok (.iconst 1, 1) := by decide +kernel
theorem dL_law_55 : decode cL_law 55 = .ok (.iand, 1) := by decide +kernel
theorem dL_law_56 : decode cL_law 56 = .ok (.ifCond .ne 8, 3) := by decide +kernel
theorem dL_law_59 : decode cL_law 59 = .ok (.bipush 60, 2) := by decide +kernel
theorem dL_law_61 : decode cL_law 61 = .ok (.goto 5, 3) := by decide +kernel
theorem dL_law_64 : decode cL_law 64 = .ok (.bipush 30, 2) := by decide +kernel
theorem dL_law_66 : decode cL_law 66 = .ok (.invokestatic 58, 3) := by decide +kernel
theorem dL_law_69 : decode cL_law 69 = .ok (.aload_n 2, 1) := by decide +kernel
theorem dL_law_70 : decode cL_law 70 = .ok (.iconst 0, 1) := by decide +kernel
theorem dL_law_71 : decode cL_law 71 = .ok (.iaload, 1) := by decide +kernel
theorem dL_law_72 : decode cL_law 72 = .ok (.if_icmp .eq 5, 3) := by decide +kernel
theorem dL_law_75 : decode cL_law 75 = .ok (.iconst 0, 1) := by decide +kernel
theorem dL_law_76 : decode cL_law 76 = .ok (.ireturn, 1) := by decide +kernel
theorem dL_law_77 : decode cL_law 77 = .ok (.aload_n 2, 1) := by decide +kernel
theorem dL_law_78 : decode cL_law 78 = .ok (.iconst 0, 1) := by decide +kernel
theorem dL_law_79 : decode cL_law 79 = .ok (.iaload, 1) := by decide +kernel
theorem dL_law_80 : decode cL_law 80 = .ok (.istore 4, 2) := by decide +kernel
theorem dL_law_82 : decode cL_law 82 = .ok (.iconst 0, 1) := by decide +kernel
theorem dL_law_83 : decode cL_law 83 = .ok (.istore 5, 2) := by decide +kernel
theorem dL_law_85 : decode cL_law 85 = .ok (.iload 5, 2) := by decide +kernel
theorem dL_law_87 : decode cL_law 87 = .ok (.iconst 2, 1) := by decide +kernel
theorem dL_law_88 : decode cL_law 88 = .ok (.if_icmp .ge 2213, 3) := by decide +kernel
theorem dL_law_91 : decode cL_law 91 = .ok (.aload_n 0, 1) := by decide +kernel
theorem dL_law_92 : decode cL_law 92 = .ok (.bipush 12, 2) := by decide +kernel
theorem dL_law_94 : decode cL_law 94 = .ok (.iload 5, 2) := by decide +kernel
theorem dL_law_96 : decode cL_law 96 = .ok (.iadd, 1) := by decide +kernel
theorem dL_law_97 : decode cL_law 97 = .ok (.invokestatic 9, 3) := by decide +kernel
theorem dL_law_100 : decode cL_law 100 = .ok (.istore 6, 2) := by decide +kernel
theorem dL_law_102 : decode cL_law 102 = .ok (.iload 6, 2) := by decide +kernel
theorem dL_law_104 : decode cL_law 104 = .ok (.iload 4, 2) := by decide +kernel
theorem dL_law_106 : decode cL_law 106 = .ok (.invokestatic 15, 3) := by decide +kernel
theorem dL_law_109 : decode cL_law 109 = .ok (.istore 7, 2) := by decide +kernel
theorem dL_law_111 : decode cL_law 111 = .ok (.iload 6, 2) := by decide +kernel
theorem dL_law_113 : decode cL_law 113 = .ok (.iconst 3, 1) := by decide +kernel
theorem dL_law_114 : decode cL_law 114 = .ok (.ishr, 1) := by decide +kernel
theorem dL_law_115 : decode cL_law 115 = .ok (.iload 4, 2) := by decide +kernel
theorem dL_law_117 : decode cL_law 117 = .ok (.invokestatic 15, 3) := by decide +kernel
theorem dL_law_120 : decode cL_law 120 = .ok (.istore 8, 2) := by decide +kernel
theorem dL_law_122 : decode cL_law 122 = .ok (.aload_n 1, 1) := by decide +kernel
theorem dL_law_123 : decode cL_law 123 = .ok (.iload 7, 2) := by decide +kernel
theorem dL_law_125 : decode cL_law 125 = .ok (.iload 8, 2) := by decide +kernel
theorem dL_law_127 : decode cL_law 127 = .ok (.invokevirtual 62, 3) := by decide +kernel
theorem dL_law_130 : decode cL_law 130 = .ok (.iconst 1, 1) := by decide +kernel
theorem dL_law_131 : decode cL_law 131 = .ok (.if_icmp .eq 5, 3) := by decide +kernel
theorem dL_law_134 : decode cL_law 134 = .ok (.iconst 0, 1) := by decide +kernel
theorem dL_law_135 : decode cL_law 135 = .ok (.ireturn, 1) := by decide +kernel
theorem dL_law_136 : decode cL_law 136 = .ok (.iconst 0, 1) := by decide +kernel
theorem dL_law_137 : decode cL_law 137 = .ok (.istore 9, 2) := by decide +kernel
theorem dL_law_139 : decode cL_law 139 = .ok (.iload 9, 2) := by decide +kernel
theorem dL_law_141 : decode cL_law 141 = .ok (.iload 4, 2) := by decide +kernel
theorem dL_law_143 : decode cL_law 143 = .ok (.if_icmp .ge 51, 3) := by decide +kernel
theorem dL_law_146 : decode cL_law 146 = .ok (.aload_n 2, 1) := by decide +kernel
theorem dL_law_147 : decode cL_law 147 = .ok (.bipush 14, 2) := by decide +kernel
theorem dL_law_149 : decode cL_law 149 = .ok (.iload 9, 2) := by decide +kernel
theorem dL_law_151 : decode cL_law 151 = .ok (.iadd, 1) := by decide +kernel
theorem dL_law_152 : decode cL_law 152 = .ok (.iaload, 1) := by decide +kernel
theorem dL_law_153 : decode cL_law 153 = .ok (.istore 10, 2) := by decide +kernel
theorem dL_law_155 : decode cL_law 155 = .ok (.aload_n 2, 1) := by decide +kernel
theorem dL_law_156 : decode cL_law 156 = .ok (.bipush 14, 2) := by decide +kernel
theorem dL_law_158 : decode cL_law 158 = .ok (.iload 9, 2) := by decide +kernel
theorem dL_law_160 : decode cL_law 160 = .ok (.iadd, 1) := by decide +kernel
theorem dL_law_161 : decode cL_law 161 = .ok (.iload 10, 2) := by decide +kernel
theorem dL_law_163 : decode cL_law 163 = .ok (.iload 7, 2) := by decide +kernel
theorem dL_law_165 : decode cL_law 165 = .ok (.if_icmp .ne 8, 3) := by decide +kernel
theorem dL_law_168 : decode cL_law 168 = .ok (.iload 8, 2) := by decide +kernel
theorem dL_law_170 : decode cL_law 170 = .ok (.goto 17, 3) := by decide +kernel
theorem dL_law_173 : decode cL_law 173 = .ok (.iload 10, 2) := by decide +kernel
theorem dL_law_175 : decode cL_law 175 = .ok (.iload 8, 2) := by decide +kernel
theorem dL_law_177 : decode cL_law 177 = .ok (.if_icmp .ne 8, 3) := by decide +kernel
theorem dL_law_180 : decode cL_law 180 = .ok (.iload 7, 2) := by decide +kernel
theorem dL_law_182 : decode cL_law 182 = .ok (.goto 5, 3) := by decide +kernel
theorem dL_law_185 : decode cL_law 185 = .ok (.iload 10, 2) := by decide +kernel
theorem dL_law_187 : decode cL_law 187 = .ok (.iastore, 1) := by decide +kernel
theorem dL_law_188 : decode cL_law 188 = .ok (.iinc 9 1, 3) := by decide +kernel
theorem dL_law_191 : decode cL_law 191 = .ok (.goto (-52), 3) := by decide +kernel
theorem dL_law_194 : decode cL_law 194 = .ok (.iload 6, 2) := by decide +kernel
theorem dL_law_196 : decode cL_law 196 = .ok (.bipush 6, 2) := by decide +kernel
theorem dL_law_198 : decode cL_law 198 = .ok (.ishr, 1) := by decide +kernel
theorem dL_law_199 : decode cL_law 199 = .ok (.iconst 4, 1) := by decide +kernel
theorem dL_law_200 : decode cL_law 200 = .ok (.invokestatic 15, 3) := by decide +kernel
theorem dL_law_203 : decode cL_law 203 = .ok (.istore 9, 2) := by decide +kernel
theorem dL_law_205 : decode cL_law 205 = .ok (.aload_n 1, 1) := by decide +kernel
theorem dL_law_206 : decode cL_law 206 = .ok (.iload 9, 2) := by decide +kernel
theorem dL_law_208 : decode cL_law 208 = .ok (.invokevirtual 65, 3) := by decide +kernel
theorem dL_law_211 : decode cL_law 211 = .ok (.aload_n 2, 1) := by decide +kernel
theorem dL_law_212 : decode cL_law 212 = .ok (.iconst 3, 1) := by decide +kernel
theorem dL_law_213 : decode cL_law 213 = .ok (.iaload, 1) := by decide +kernel
theorem dL_law_214 : decode cL_law 214 = .ok (.if_icmp .eq 5, 3) := by decide +kernel
theorem dL_law_217 : decode cL_law 217 = .ok (.iconst 0, 1) := by decide +kernel
theorem dL_law_218 : decode cL_law 218 = .ok (.ireturn, 1) := by decide +kernel
theorem dL_law_219 : decode cL_law 219 = .ok (.aload_n 2, 1) := by decide +kernel
theorem dL_law_220 : decode cL_law 220 = .ok (.iconst 3, 1) := by decide +kernel
theorem dL_law_221 : decode cL_law 221 = .ok (.iload 9, 2) := by decide +kernel
theorem dL_law_223 : decode cL_law 223 = .ok (.iastore, 1) := by decide +kernel
theorem dL_law_224 : decode cL_law 224 = .ok (.aload_n 2, 1) := by decide +kernel
theorem dL_law_225 : decode cL_law 225 = .ok (.invokestatic 36, 3) := by decide +kernel
theorem dL_law_228 : decode cL_law 228 = .ok (.istore 10, 2) := by decide +kernel
theorem dL_law_230 : decode cL_law 230 = .ok (.bipush 64, 2) := by decide +kernel
theorem dL_law_232 : decode cL_law 232 = .ok (.newarray .int, 2) := by decide +kernel
theorem dL_law_234 : decode cL_law 234 = .ok (.astore 11, 2) := by decide +kernel
theorem dL_law_236 : decode cL_law 236 = .ok (.bipush 64, 2) := by decide +kernel
theorem dL_law_238 : decode cL_law 238 = .ok (.newarray .int, 2) := by decide +kernel
theorem dL_law_240 : decode cL_law 240 = .ok (.astore 12, 2) := by decide +kernel
theorem dL_law_242 : decode cL_law 242 = .ok (.aload_n 1, 1) := by decide +kernel
theorem dL_law_243 : decode cL_law 243 = .ok (.aload_n 2, 1) := by decide +kernel
theorem dL_law_244 : decode cL_law 244 = .ok (.aload 11, 2) := by decide +kernel
theorem dL_law_246 : decode cL_law 246 = .ok (.aload 12, 2) := by decide +kernel
theorem dL_law_248 : decode cL_law 248 = .ok (.invokestatic 69, 3) := by decide +kernel
theorem dL_law_251 : decode cL_law 251 = .ok (.ifCond .ne 5, 3) := by decide +kernel
theorem dL_law_254 : decode cL_law 254 = .ok (.iconst 0, 1) := by decide +kernel
theorem dL_law_255 : decode cL_law 255 = .ok (.ireturn, 1) := by decide +kernel
theorem dL_law_256 : decode cL_law 256 = .ok (.aload_n 2, 1) := by decide +kernel
theorem dL_law_257 : decode cL_law 257 = .ok (.aload_n 3, 1) := by decide +kernel
theorem dL_law_258 : decode cL_law 258 = .ok (.aload 11, 2) := by decide +kernel
theorem dL_law_260 : decode cL_law 260 = .ok (.aload 12, 2) := by decide +kernel
theorem dL_law_262 : decode cL_law 262 = .ok (.invokestatic 73, 3) := by decide +kernel
theorem dL_law_265 : decode cL_law 265 = .ok (.astore 13, 2) := by decide +kernel
theorem dL_law_267 : decode cL_law 267 = .ok (.iconst 1, 1) := by decide +kernel
theorem dL_law_268 : decode cL_law 268 = .ok (.istore 14, 2) := by decide +kernel
theorem dL_law_270 : decode cL_law 270 = .ok (.iconst 0, 1) := by decide +kernel
theorem dL_law_271 : decode cL_law 271 = .ok (.istore 15, 2) := by decide +kernel
theorem dL_law_273 : decode cL_law 273 = .ok (.iload 15, 2) := by decide +kernel
theorem dL_law_275 : decode cL_law 275 = .ok (.iload 10, 2) := by decide +kernel
theorem dL_law_277 : decode cL_law 277 = .ok (.if_icmp .ge 15, 3) := by decide +kernel
theorem dL_law_280 : decode cL_law 280 = .ok (.iload 14, 2) := by decide +kernel
theorem dL_law_282 : decode cL_law 282 = .ok (.iconst 4, 1) := by decide +kernel
theorem dL_law_283 : decode cL_law 283 = .ok (.imul, 1) := by decide +kernel
theorem dL_law_284 : decode cL_law 284 = .ok (.istore 14, 2) := by decide +kernel
theorem dL_law_286 : decode cL_law 286 = .ok (.iinc 15 1, 3) := by decide +kernel
theorem dL_law_289 : decode cL_law 289 = .ok (.goto (-16), 3) := by decide +kernel
theorem dL_law_292 : decode cL_law 292 = .ok (.iconst (-1), 1) := by decide +kernel
theorem dL_law_293 : decode cL_law 293 = .ok (.istore 15, 2) := by decide +kernel
theorem dL_law_295 : decode cL_law 295 = .ok (.iconst 0, 1) := by decide +kernel
theorem dL_law_296 : decode cL_law 296 = .ok (.istore 16, 2) := by decide +kernel
theorem dL_law_298 : decode cL_law 298 = .ok (.iload 14, 2) := by decide +kernel
theorem dL_law_300 : decode cL_law 300 = .ok (.iconst 1, 1) := by decide +kernel
theorem dL_law_301 : decode cL_law 301 = .ok (.isub, 1) := by decide +kernel
theorem dL_law_302 : decode cL_law 302 = .ok (.istore 17, 2) := by decide +kernel
theorem dL_law_304 : decode cL_law 304 = .ok (.iload 17, 2) := by decide +kernel
theorem dL_law_306 : decode cL_law 306 = .ok (.ifCond .lt 170, 3) := by decide +kernel
theorem dL_law_309 : decode cL_law 309 = .ok (.bipush 6, 2) := by decide +kernel
theorem dL_law_311 : decode cL_law 311 = .ok (.newarray .int, 2) := by decide +kernel
theorem dL_law_313 : decode cL_law 313 = .ok (.astore 18, 2) := by decide +kernel
theorem dL_law_315 : decode cL_law 315 = .ok (.iload 17, 2) := by decide +kernel
theorem dL_law_317 : decode cL_law 317 = .ok (.istore 19, 2) := by decide +kernel
theorem dL_law_319 : decode cL_law 319 = .ok (.iconst 1, 1) := by decide +kernel
theorem dL_law_320 : decode cL_law 320 = .ok (.istore 20, 2) := by decide +kernel
theorem dL_law_322 : decode cL_law 322 = .ok (.iload 10, 2) := by decide +kernel
theorem dL_law_324 : decode cL_law 324 = .ok (.iconst 1, 1) := by decide +kernel
theorem dL_law_325 : decode cL_law 325 = .ok (.isub, 1) := by decide +kernel
theorem dL_law_326 : decode cL_law 326 = .ok (.istore 21, 2) := by decide +kernel
theorem dL_law_328 : decode cL_law 328 = .ok (.iload 21, 2) := by decide +kernel
theorem dL_law_330 : decode cL_law 330 = .ok (.ifCond .lt 68, 3) := by decide +kernel
theorem dL_law_333 : decode cL_law 333 = .ok (.aload 18, 2) := by decide +kernel
theorem dL_law_335 : decode cL_law 335 = .ok (.iload 21, 2) := by decide +kernel
theorem dL_law_337 : decode cL_law 337 = .ok (.iload 19, 2) := by decide +kernel
theorem dL_law_339 : decode cL_law 339 = .ok (.iconst 4, 1) := by decide +kernel
theorem dL_law_340 : decode cL_law 340 = .ok (.irem, 1) := by decide +kernel
theorem dL_law_341 : decode cL_law 341 = .ok (.iconst 3, 1) := by decide +kernel
theorem dL_law_342 : decode cL_law 342 = .ok (.if_icmp .ne 8, 3) := by decide +kernel
theorem dL_law_345 : decode cL_law 345 = .ok (.bipush (-9), 2) := by decide +kernel
theorem dL_law_347 : decode cL_law 347 = .ok (.goto 7, 3) := by decide +kernel
theorem dL_law_350 : decode cL_law 350 = .ok (.iload 19, 2) := by decide +kernel
theorem dL_law_352 : decode cL_law 352 = .ok (.iconst 4, 1) := by decide +kernel
theorem dL_law_353 : decode cL_law 353 = .ok (.irem, 1) := by decide +kernel
theorem dL_law_354 : decode cL_law 354 = .ok (.iastore, 1) := by decide +kernel
theorem dL_law_355 : decode cL_law 355 = .ok (.iload 19, 2) := by decide +kernel
theorem dL_law_357 : decode cL_law 357 = .ok (.iconst 4, 1) := by decide +kernel
theorem dL_law_358 : decode cL_law 358 = .ok (.idiv, 1) := by decide +kernel
theorem dL_law_359 : decode cL_law 359 = .ok (.istore 19, 2) := by decide +kernel
theorem dL_law_361 : decode cL_law 361 = .ok (.iload 20, 2) := by decide +kernel
theorem dL_law_363 : decode cL_law 363 = .ok (.ifCond .eq 26, 3) := by decide +kernel
theorem dL_law_366 : decode cL_law 366 = .ok (.aload 18, 2) := by decide +kernel
theorem dL_law_368 : decode cL_law 368 = .ok (.iload 21, 2) := by decide +kernel
theorem dL_law_370 : decode cL_law 370 = .ok (.iaload, 1) := by decide +kernel
theorem dL_law_371 : decode cL_law 371 = .ok (.aload_n 2, 1) := by decide +kernel
theorem dL_law_372 : decode cL_law 372 = .ok (.bipush 9, 2) := by decide +kernel
theorem dL_law_374 : decode cL_law 374 = .ok (.aload_n 2, 1) := by decide +kernel
theorem dL_law_375 : decode cL_law 375 = .ok (.iload 21, 2) := by decide +kernel
theorem dL_law_377 : decode cL_law 377 = .ok (.invokestatic 33, 3) := by decide +kernel
theorem dL_law_380 : decode cL_law 380 = .ok (.iadd, 1) := by decide +kernel
theorem dL_law_381 : decode cL_law 381 = .ok (.iaload, 1) := by decide +kernel
theorem dL_law_382 : decode cL_law 382 = .ok (.if_icmp .ge 7, 3) := by decide +kernel
theorem dL_law_385 : decode cL_law 385 = .ok (.iconst 1, 1) := by decide +kernel
theorem dL_law_386 : decode cL_law 386 = .ok (.goto 4, 3) := by decide +kernel
theorem dL_law_389 : decode cL_law 389 = .ok (.iconst 0, 1) := by decide +kernel
theorem dL_law_390 : decode cL_law 390 = .ok (.istore 20, 2) := by decide +kernel
theorem dL_law_392 : decode cL_law 392 = .ok (.iinc 21 (-1), 3) := by decide +kernel
theorem dL_law_395 : decode cL_law 395 = .ok (.goto (-67), 3) := by decide +kernel
theorem dL_law_398 : decode cL_law 398 = .ok (.iload 20, 2) := by decide +kernel
theorem dL_law_400 : decode cL_law 400 = .ok (.ifCond .eq 70, 3) := by decide +kernel
theorem dL_law_403 : decode cL_law 403 = .ok (.aload_n 2, 1) := by decide +kernel
theorem dL_law_404 : decode cL_law 404 = .ok (.aload_n 3, 1) := by decide +kernel
theorem dL_law_405 : decode cL_law 405 = .ok (.aload 18, 2) := by decide +kernel
theorem dL_law_407 : decode cL_law 407 = .ok (.iload 10, 2) := by decide +kernel
theorem dL_law_409 : decode cL_law 409 = .ok (.aload_n 2, 1) := by decide +kernel
theorem dL_law_410 : decode cL_law 410 = .ok (.iconst 2, 1) := by decide +kernel
theorem dL_law_411 : decode cL_law 411 = .ok (.iaload, 1) := by decide +kernel
theorem dL_law_412 : decode cL_law 412 = .ok (.invokestatic 77, 3) := by decide +kernel
theorem dL_law_415 : decode cL_law 415 = .ok (.astore 21, 2) := by decide +kernel
theorem dL_law_417 : decode cL_law 417 = .ok (.iconst 0, 1) := by decide +kernel
theorem dL_law_418 : decode cL_law 418 = .ok (.istore 22, 2) := by decide +kernel
theorem dL_law_420 : decode cL_law 420 = .ok (.iconst 0, 1) := by decide +kernel
theorem dL_law_421 : decode cL_law 421 = .ok (.istore 23, 2) := by decide +kernel
theorem dL_law_423 : decode cL_law 423 = .ok (.iload 23, 2) := by decide +kernel
theorem dL_law_425 : decode cL_law 425 = .ok (.iload 4, 2) := by decide +kernel
theorem dL_law_427 : decode cL_law 427 = .ok (.if_icmp .ge 21, 3) := by decide +kernel
theorem dL_law_430 : decode cL_law 430 = .ok (.iload 22, 2) := by decide +kernel
theorem dL_law_432 : decode cL_law 432 = .ok (.aload 21, 2) := by decide +kernel
theorem dL_law_434 : decode cL_law 434 = .ok (.iconst 3, 1) := by decide +kernel
theorem dL_law_435 : decode cL_law 435 = .ok (.iload 23, 2) := by decide +kernel
theorem dL_law_437 : decode cL_law 437 = .ok (.iadd, 1) := by decide +kernel
theorem dL_law_438 : decode cL_law 438 = .ok (.iaload, 1) := by decide +kernel
theorem dL_law_439 : decode cL_law 439 = .ok (.iadd, 1) := by decide +kernel
theorem dL_law_440 : decode cL_law 440 = .ok (.istore 22, 2) := by decide +kernel
theorem dL_law_442 : decode cL_law 442 = .ok (.iinc 23 1, 3) := by decide +kernel
theorem dL_law_445 : decode cL_law 445 = .ok (.goto (-22), 3) := by decide +kernel
theorem dL_law_448 : decode cL_law 448 = .ok (.aload 21, 2) := by decide +kernel
theorem dL_law_450 : decode cL_law 450 = .ok (.iconst 1, 1) := by decide +kernel
theorem dL_law_451 : decode cL_law 451 = .ok (.iaload, 1) := by decide +kernel
theorem dL_law_452 : decode cL_law 452 = .ok (.ifCond .ge 18, 3) := by decide +kernel
theorem dL_law_455 : decode cL_law 455 = .ok (.iload 22, 2) := by decide +kernel
theorem dL_law_457 : decode cL_law 457 = .ok (.iload 15, 2) := by decide +kernel
theorem dL_law_459 : decode cL_law 459 = .ok (.if_icmp .lt 11, 3) := by decide +kernel
theorem dL_law_462 : decode cL_law 462 = .ok (.iload 22, 2) := by decide +kernel
theorem dL_law_464 : decode cL_law 464 = .ok (.istore 15, 2) := by decide +kernel
theorem dL_law_466 : decode cL_law 466 = .ok (.iload 17, 2) := by decide +kernel
theorem dL_law_468 : decode cL_law 468 = .ok (.istore 16, 2) := by decide +kernel
theorem dL_law_470 : decode cL_law 470 = .ok (.iinc 17 (-1), 3) := by decide +kernel
theorem dL_law_473 : decode cL_law 473 = .ok (.goto (-169), 3) := by decide +kernel
theorem dL_law_476 : decode cL_law 476 = .ok (.aload_n 1, 1) := by decide +kernel
theorem dL_law_477 : decode cL_law 477 = .ok (.iconst (-1), 1) := by decide +kernel
theorem dL_law_478 : decode cL_law 478 = .ok (.invokevirtual 81, 3) := by decide +kernel
theorem dL_law_481 : decode cL_law 481 = .ok (.iload 15, 2) := by decide +kernel
theorem dL_law_483 : decode cL_law 483 = .ok (.if_icmp .ne 23, 3) := by decide +kernel
theorem dL_law_486 : decode cL_law 486 = .ok (.aload_n 1, 1) := by decide +kernel
theorem dL_law_487 : decode cL_law 487 = .ok (.iload 10, 2) := by decide +kernel
theorem dL_law_489 : decode cL_law 489 = .ok (.invokevirtual 81, 3) := by decide +kernel
theorem dL_law_492 : decode cL_law 492 = .ok (.iconst (-1), 1) := by decide +kernel
theorem dL_law_493 : decode cL_law 493 = .ok (.if_icmp .ne 13, 3) := by decide +kernel
theorem dL_law_496 : decode cL_law 496 = .ok (.aload_n 1, 1) := by decide +kernel
theorem dL_law_497 : decode cL_law 497 = .ok (.bipush (-2), 2) := by decide +kernel
theorem dL_law_499 : decode cL_law 499 = .ok (.invokevirtual 81, 3) := by decide +kernel
theorem dL_law_502 : decode cL_law 502 = .ok (.iconst (-1), 1) := by decide +kernel
theorem dL_law_503 : decode cL_law 503 = .ok (.if_icmp .eq 5, 3) := by decide +kernel
theorem dL_law_506 : decode cL_law 506 = .ok (.iconst 0, 1) := by decide +kernel
theorem dL_law_507 : decode cL_law 507 = .ok (.ireturn, 1) := by decide +kernel
theorem dL_law_508 : decode cL_law 508 = .ok (.iload 10, 2) := by decide +kernel
theorem dL_law_510 : decode cL_law 510 = .ok (.iconst 1, 1) := by decide +kernel
theorem dL_law_511 : decode cL_law 511 = .ok (.isub, 1) := by decide +kernel
theorem dL_law_512 : decode cL_law 512 = .ok (.istore 17, 2) := by decide +kernel
theorem dL_law_514 : decode cL_law 514 = .ok (.iload 17, 2) := by decide +kernel
theorem dL_law_516 : decode cL_law 516 = .ok (.ifCond .lt 43, 3) := by decide +kernel
theorem dL_law_519 : decode cL_law 519 = .ok (.aload_n 1, 1) := by decide +kernel
theorem dL_law_520 : decode cL_law 520 = .ok (.iload 17, 2) := by decide +kernel
theorem dL_law_522 : decode cL_law 522 = .ok (.invokevirtual 81, 3) := by decide +kernel
theorem dL_law_525 : decode cL_law 525 = .ok (.iload 16, 2) := by decide +kernel
theorem dL_law_527 : decode cL_law 527 = .ok (.iconst 4, 1) := by decide +kernel
theorem dL_law_528 : decode cL_law 528 = .ok (.irem, 1) := by decide +kernel
theorem dL_law_529 : decode cL_law 529 = .ok (.iconst 3, 1) := by decide +kernel
theorem dL_law_530 : decode cL_law 530 = .ok (.if_icmp .ne 8, 3) := by decide +kernel
theorem dL_law_533 : decode cL_law 533 = .ok (.bipush (-9), 2) := by decide +kernel
theorem dL_law_535 : decode cL_law 535 = .ok (.goto 7, 3) := by decide +kernel
theorem dL_law_538 : decode cL_law 538 = .ok (.iload 16, 2) := by decide +kernel
theorem dL_law_540 : decode cL_law 540 = .ok (.iconst 4, 1) := by decide +kernel
theorem dL_law_541 : decode cL_law 541 = .ok (.irem, 1) := by decide +kernel
theorem dL_law_542 : decode cL_law 542 = .ok (.if_icmp .eq 5, 3) := by decide +kernel
theorem dL_law_545 : decode cL_law 545 = .ok (.iconst 0, 1) := by decide +kernel
theorem dL_law_546 : decode cL_law 546 = .ok (.ireturn, 1) := by decide +kernel
theorem dL_law_547 : decode cL_law 547 = .ok (.iload 16, 2) := by decide +kernel
theorem dL_law_549 : decode cL_law 549 = .ok (.iconst 4, 1) := by decide +kernel
theorem dL_law_550 : decode cL_law 550 = .ok (.idiv, 1) := by decide +kernel
theorem dL_law_551 : decode cL_law 551 = .ok (.istore 16, 2) := by decide +kernel
theorem dL_law_553 : decode cL_law 553 = .ok (.iinc 17 (-1), 3) := by decide +kernel
theorem dL_law_556 : decode cL_law 556 = .ok (.goto (-42), 3) := by decide +kernel
theorem dL_law_559 : decode cL_law 559 = .ok (.iconst 0, 1) := by decide +kernel
theorem dL_law_560 : decode cL_law 560 = .ok (.istore 17, 2) := by decide +kernel
theorem dL_law_562 : decode cL_law 562 = .ok (.iload 17, 2) := by decide +kernel
theorem dL_law_564 : decode cL_law 564 = .ok (.iload 4, 2) := by decide +kernel
theorem dL_law_566 : decode cL_law 566 = .ok (.if_icmp .ge 568, 3) := by decide +kernel
theorem dL_law_569 : decode cL_law 569 = .ok (.iconst 0, 1) := by decide +kernel
theorem dL_law_570 : decode cL_law 570 = .ok (.istore 18, 2) := by decide +kernel
theorem dL_law_572 : decode cL_law 572 = .ok (.aload_n 2, 1) := by decide +kernel
theorem dL_law_573 : decode cL_law 573 = .ok (.bipush 14, 2) := by decide +kernel
theorem dL_law_575 : decode cL_law 575 = .ok (.iload 18, 2) := by decide +kernel
theorem dL_law_577 : decode cL_law 577 = .ok (.iadd, 1) := by decide +kernel
theorem dL_law_578 : decode cL_law 578 = .ok (.iaload, 1) := by decide +kernel
theorem dL_law_579 : decode cL_law 579 = .ok (.iload 17, 2) := by decide +kernel
theorem dL_law_581 : decode cL_law 581 = .ok (.if_icmp .eq 9, 3) := by decide +kernel
theorem dL_law_584 : decode cL_law 584 = .ok (.iinc 18 1, 3) := by decide +kernel
theorem dL_law_587 : decode cL_law 587 = .ok (.goto (-15), 3) := by decide +kernel
theorem dL_law_590 : decode cL_law 590 = .ok (.aload 13, 2) := by decide +kernel
theorem dL_law_592 : decode cL_law 592 = .ok (.bipush 12, 2) := by decide +kernel
theorem dL_law_594 : decode cL_law 594 = .ok (.iload 18, 2) := by decide +kernel
theorem dL_law_596 : decode cL_law 596 = .ok (.iadd, 1) := by decide +kernel
theorem dL_law_597 : decode cL_law 597 = .ok (.iaload, 1) := by decide +kernel
theorem dL_law_598 : decode cL_law 598 = .ok (.istore 19, 2) := by decide +kernel
theorem dL_law_600 : decode cL_law 600 = .ok (.bipush (-9), 2) := by decide +kernel
theorem dL_law_602 : decode cL_law 602 = .ok (.istore 20, 2) := by decide +kernel
theorem dL_law_604 : decode cL_law 604 = .ok (.iconst 0, 1) := by decide +kernel
theorem dL_law_605 : decode cL_law 605 = .ok (.istore 21, 2) := by decide +kernel
theorem dL_law_607 : decode cL_law 607 = .ok (.aload_n 2, 1) := by decide +kernel
theorem dL_law_608 : decode cL_law 608 = .ok (.bipush 9, 2) := by decide +kernel
theorem dL_law_610 : decode cL_law 610 = .ok (.iload 17, 2) := by decide +kernel
theorem dL_law_612 : decode cL_law 612 = .ok (.iadd, 1) := by decide +kernel
theorem dL_law_613 : decode cL_law 613 = .ok (.iaload, 1) := by decide +kernel
theorem dL_law_614 : decode cL_law 614 = .ok (.iconst 1, 1) := by decide +kernel
theorem dL_law_615 : decode cL_law 615 = .ok (.isub, 1) := by decide +kernel
theorem dL_law_616 : decode cL_law 616 = .ok (.istore 22, 2) := by decide +kernel
theorem dL_law_618 : decode cL_law 618 = .ok (.iload 22, 2) := by decide +kernel
theorem dL_law_620 : decode cL_law 620 = .ok (.ifCond .lt 61, 3) := by decide +kernel
theorem dL_law_623 : decode cL_law 623 = .ok (.aload_n 3, 1) := by decide +kernel
theorem dL_law_624 : decode cL_law 624 = .ok (.bipush 9, 2) := by decide +kernel
theorem dL_law_626 : decode cL_law 626 = .ok (.iload 17, 2) := by decide +kernel
theorem dL_law_628 : decode cL_law 628 = .ok (.imul, 1) := by decide +kernel
theorem dL_law_629 : decode cL_law 629 = .ok (.iconst 3, 1) := by decide +kernel
theorem dL_law_630 : decode cL_law 630 = .ok (.iload 22, 2) := by decide +kernel
theorem dL_law_632 : decode cL_law 632 = .ok (.imul, 1) := by decide +kernel
theorem dL_law_633 : decode cL_law 633 = .ok (.iadd, 1) := by decide +kernel
theorem dL_law_634 : decode cL_law 634 = .ok (.iaload, 1) := by decide +kernel
theorem dL_law_635 : decode cL_law 635 = .ok (.istore 23, 2) := by decide +kernel
theorem dL_law_637 : decode cL_law 637 = .ok (.iload 23, 2) := by decide +kernel
theorem dL_law_639 : decode cL_law 639 = .ok (.iload 19, 2) := by decide +kernel
theorem dL_law_641 : decode cL_law 641 = .ok (.if_icmp .gt 30, 3) := by decide +kernel
theorem dL_law_644 : decode cL_law 644 = .ok (.iload 20, 2) := by decide +kernel
theorem dL_law_646 : decode cL_law 646 = .ok (.ifCond .lt 20, 3) := by decide +kernel
theorem dL_law_649 : decode cL_law 649 = .ok (.iload 23, 2) := by decide +kernel
theorem dL_law_651 : decode cL_law 651 = .ok (.aload_n 3, 1) := by decide +kernel
theorem dL_law_652 : decode cL_law 652 = .ok (.bipush 9, 2) := by decide +kernel
theorem dL_law_654 : decode cL_law 654 = .ok (.iload 17, 2) := by decide +kernel
theorem dL_law_656 : decode cL_law 656 = .ok (.imul, 1) := by decide +kernel
theorem dL_law_657 : decode cL_law 657 = .ok (.iconst 3, 1) := by decide +kernel
theorem dL_law_658 : decode cL_law 658 = .ok (.iload 20, 2) := by decide +kernel
theorem dL_law_660 : decode cL_law 660 = .ok (.imul, 1) := by decide +kernel
theorem dL_law_661 : decode cL_law 661 = .ok (.iadd, 1) := by decide +kernel
theorem dL_law_662 : decode cL_law 662 = .ok (.iaload, 1) := by decide +kernel
theorem dL_law_663 : decode cL_law 663 = .ok (.if_icmp .lt 8, 3) := by decide +kernel
theorem dL_law_666 : decode cL_law 666 = .ok (.iload 22, 2) := by decide +kernel
theorem dL_law_668 : decode cL_law 668 = .ok (.goto 5, 3) := by decide +kernel
theorem dL_law_671 : decode cL_law 671 = .ok (.iload 20, 2) := by decide +kernel
theorem dL_law_673 : decode cL_law 673 = .ok (.istore 20, 2) := by decide +kernel
theorem dL_law_675 : decode cL_law 675 = .ok (.iinc 22 (-1), 3) := by decide +kernel
theorem dL_law_678 : decode cL_law 678 = .ok (.goto (-60), 3) := by decide +kernel
theorem dL_law_681 : decode cL_law 681 = .ok (.iconst 0, 1) := by decide +kernel
theorem dL_law_682 : decode cL_law 682 = .ok (.istore 22, 2) := by decide +kernel
theorem dL_law_684 : decode cL_law 684 = .ok (.iload 22, 2) := by decide +kernel
theorem dL_law_686 : decode cL_law 686 = .ok (.iload 10, 2) := by decide +kernel
theorem dL_law_688 : decode cL_law 688 = .ok (.if_icmp .ge 58, 3) := by decide +kernel
theorem dL_law_691 : decode cL_law 691 = .ok (.iload 21, 2) := by decide +kernel
theorem dL_law_693 : decode cL_law 693 = .ok (.aload_n 2, 1) := by decide +kernel
theorem dL_law_694 : decode cL_law 694 = .ok (.iload 22, 2) := by decide +kernel
theorem dL_law_696 : decode cL_law 696 = .ok (.invokestatic 33, 3) := by decide +kernel
theorem dL_law_699 : decode cL_law 699 = .ok (.iload 17, 2) := by decide +kernel
theorem dL_law_701 : decode cL_law 701 = .ok (.if_icmp .ne 35, 3) := by decide +kernel
theorem dL_law_704 : decode cL_law 704 = .ok (.aload 13, 2) := by decide +kernel
theorem dL_law_706 : decode cL_law 706 = .ok (.bipush 6, 2) := by decide +kernel
theorem dL_law_708 : decode cL_law 708 = .ok (.iload 22, 2) := by decide +kernel
theorem dL_law_710 : decode cL_law 710 = .ok (.iadd, 1) := by decide +kernel
theorem dL_law_711 : decode cL_law 711 = .ok (.iaload, 1) := by decide +kernel
theorem dL_law_712 : decode cL_law 712 = .ok (.ifCond .lt 24, 3) := by decide +kernel
theorem dL_law_715 : decode cL_law 715 = .ok (.aload_n 3, 1) := by decide +kernel
theorem dL_law_716 : decode cL_law 716 = .ok (.bipush 9, 2) := by decide +kernel
theorem dL_law_718 : decode cL_law 718 = .ok (.iload 17, 2) := by decide +kernel
theorem dL_law_720 : decode cL_law 720 = .ok (.imul, 1) := by decide +kernel
theorem dL_law_721 : decode cL_law 721 = .ok (.iconst 3, 1) := by decide +kernel
theorem dL_law_722 : decode cL_law 722 = .ok (.aload 13, 2) := by decide +kernel
theorem dL_law_724 : decode cL_law 724 = .ok (.bipush 6, 2) := by decide +kernel
theorem dL_law_726 : decode cL_law 726 = .ok (.iload 22, 2) := by decide +kernel
theorem dL_law_728 : decode cL_law 728 = .ok (.iadd, 1) := by decide +kernel
theorem dL_law_729 : decode cL_law 729 = .ok (.iaload, 1) := by decide +kernel
theorem dL_law_730 : decode cL_law 730 = .ok (.imul, 1) := by decide +kernel
theorem dL_law_731 : decode cL_law 731 = .ok (.iadd, 1) := by decide +kernel
theorem dL_law_732 : decode cL_law 732 = .ok (.iaload, 1) := by decide +kernel
theorem dL_law_733 : decode cL_law 733 = .ok (.goto 4, 3) := by decide +kernel
theorem dL_law_736 : decode cL_law 736 = .ok (.iconst 0, 1) := by decide +kernel
theorem dL_law_737 : decode cL_law 737 = .ok (.iadd, 1) := by decide +kernel
theorem dL_law_738 : decode cL_law 738 = .ok (.istore 21, 2) := by decide +kernel
theorem dL_law_740 : decode cL_law 740 = .ok (.iinc 22 1, 3) := by decide +kernel
theorem dL_law_743 : decode cL_law 743 = .ok (.goto (-59), 3) := by decide +kernel
theorem dL_law_746 : decode cL_law 746 = .ok (.aload_n 2, 1) := by decide +kernel
theorem dL_law_747 : decode cL_law 747 = .ok (.aload_n 3, 1) := by decide +kernel
theorem dL_law_748 : decode cL_law 748 = .ok (.aload 11, 2) := by decide +kernel
theorem dL_law_750 : decode cL_law 750 = .ok (.aload 12, 2) := by decide +kernel
theorem dL_law_752 : decode cL_law 752 = .ok (.iload 18, 2) := by decide +kernel
theorem dL_law_754 : decode cL_law 754 = .ok (.bipush (-9), 2) := by decide +kernel
theorem dL_law_756 : decode cL_law 756 = .ok (.invokestatic 84, 3) := by decide +kernel
theorem dL_law_759 : decode cL_law 759 = .ok (.astore 22, 2) := by decide +kernel
theorem dL_law_761 : decode cL_law 761 = .ok (.aload_n 2, 1) := by decide +kernel
theorem dL_law_762 : decode cL_law 762 = .ok (.aload_n 3, 1) := by decide +kernel
theorem dL_law_763 : decode cL_law 763 = .ok (.aload 11, 2) := by decide +kernel
theorem dL_law_765 : decode cL_law 765 = .ok (.aload 12, 2) := by decide +kernel
theorem dL_law_767 : decode cL_law 767 = .ok (.iload 18, 2) := by decide +kernel
theorem dL_law_769 : decode cL_law 769 = .ok (.iload 20, 2) := by decide +kernel
theorem dL_law_771 : decode cL_law 771 = .ok (.invokestatic 84, 3) := by decide +kernel
theorem dL_law_774 : decode cL_law 774 = .ok (.astore 23, 2) := by decide +kernel
theorem dL_law_776 : decode cL_law 776 = .ok (.iconst 0, 1) := by decide +kernel
theorem dL_law_777 : decode cL_law 777 = .ok (.istore 24, 2) := by decide +kernel
theorem dL_law_779 : decode cL_law 779 = .ok (.iload 24, 2) := by decide +kernel
theorem dL_law_781 : decode cL_law 781 = .ok (.iload 4, 2) := by decide +kernel
theorem dL_law_783 : decode cL_law 783 = .ok (.if_icmp .ge 105, 3) := by decide +kernel
theorem dL_law_786 : decode cL_law 786 = .ok (.iload 24, 2) := by decide +kernel
theorem dL_law_788 : decode cL_law 788 = .ok (.iload 17, 2) := by decide +kernel
theorem dL_law_790 : decode cL_law 790 = .ok (.if_icmp .ne 9, 3) := by decide +kernel
theorem dL_law_793 : decode cL_law 793 = .ok (.ldc2_w 88, 3) := by decide +kernel
theorem dL_law_796 : decode cL_law 796 = .ok (.goto 15, 3) := by decide +kernel
theorem dL_law_799 : decode cL_law 799 = .ok (.aload 22, 2) := by decide +kernel
theorem dL_law_801 : decode cL_law 801 = .ok (.iload 24, 2) := by decide +kernel
theorem dL_law_803 : decode cL_law 803 = .ok (.iaload, 1) := by decide +kernel
theorem dL_law_804 : decode cL_law 804 = .ok (.aload 23, 2) := by decide +kernel
theorem dL_law_806 : decode cL_law 806 = .ok (.iload 24, 2) := by decide +kernel
theorem dL_law_808 : decode cL_law 808 = .ok (.iaload, 1) := by decide +kernel
theorem dL_law_809 : decode cL_law 809 = .ok (.isub, 1) := by decide +kernel
theorem dL_law_810 : decode cL_law 810 = .ok (.i2l, 1) := by decide +kernel
theorem dL_law_811 : decode cL_law 811 = .ok (.lstore 25, 2) := by decide +kernel
theorem dL_law_813 : decode cL_law 813 = .ok (.iload 24, 2) := by decide +kernel
theorem dL_law_815 : decode cL_law 815 = .ok (.iload 17, 2) := by decide +kernel
theorem dL_law_817 : decode cL_law 817 = .ok (.if_icmp .ne 9, 3) := by decide +kernel
theorem dL_law_820 : decode cL_law 820 = .ok (.ldc2_w 88, 3) := by decide +kernel
theorem dL_law_823 : decode cL_law 823 = .ok (.goto 27, 3) := by decide +kernel
theorem dL_law_826 : decode cL_law 826 = .ok (.aload 22, 2) := by decide +kernel
theorem dL_law_828 : decode cL_law 828 = .ok (.iload 24, 2) := by decide +kernel
theorem dL_law_830 : decode cL_law 830 = .ok (.iaload, 1) := by decide +kernel
theorem dL_law_831 : decode cL_law 831 = .ok (.aload 22, 2) := by decide +kernel
theorem dL_law_833 : decode cL_law 833 = .ok (.iload 17, 2) := by decide +kernel
theorem dL_law_835 : decode cL_law 835 = .ok (.iaload, 1) := by decide +kernel
theorem dL_law_836 : decode cL_law 836 = .ok (.iadd, 1) := by decide +kernel
theorem dL_law_837 : decode cL_law 837 = .ok (.aload 13, 2) := by decide +kernel
theorem dL_law_839 : decode cL_law 839 = .ok (.iload 24, 2) := by decide +kernel
theorem dL_law_841 : decode cL_law 841 = .ok (.iaload, 1) := by decide +kernel
theorem dL_law_842 : decode cL_law 842 = .ok (.isub, 1) := by decide +kernel
theorem dL_law_843 : decode cL_law 843 = .ok (.aload 13, 2) := by decide +kernel
theorem dL_law_845 : decode cL_law 845 = .ok (.iload 17, 2) := by decide +kernel
theorem dL_law_847 : decode cL_law 847 = .ok (.iaload, 1) := by decide +kernel
theorem dL_law_848 : decode cL_law 848 = .ok (.isub, 1) := by decide +kernel
theorem dL_law_849 : decode cL_law 849 = .ok (.i2l, 1) := by decide +kernel
theorem dL_law_850 : decode cL_law 850 = .ok (.lstore 27, 2) := by decide +kernel
theorem dL_law_852 : decode cL_law 852 = .ok (.aload_n 1, 1) := by decide +kernel
theorem dL_law_853 : decode cL_law 853 = .ok (.iload 17, 2) := by decide +kernel
theorem dL_law_855 : decode cL_law 855 = .ok (.iload 24, 2) := by decide +kernel
theorem dL_law_857 : decode cL_law 857 = .ok (.invokevirtual 90, 3) := by decide +kernel
theorem dL_law_860 : decode cL_law 860 = .ok (.lload 25, 2) := by decide +kernel
theorem dL_law_862 : decode cL_law 862 = .ok (.lcmp, 1) := by decide +kernel
theorem dL_law_863 : decode cL_law 863 = .ok (.ifCond .ne 17, 3) := by decide +kernel
theorem dL_law_866 : decode cL_law 866 = .ok (.aload_n 1, 1) := by decide +kernel
theorem dL_law_867 : decode cL_law 867 = .ok (.iload 17, 2) := by decide +kernel
theorem dL_law_869 : decode cL_law 869 = .ok (.iload 24, 2) := by decide +kernel
theorem dL_law_871 : decode cL_law 871 = .ok (.invokevirtual 94, 3) := by decide +kernel
theorem dL_law_874 : decode cL_law 874 = .ok (.lload 27, 2) := by decide +kernel
theorem dL_law_876 : decode cL_law 876 = .ok (.lcmp, 1) := by decide +kernel
theorem dL_law_877 : decode cL_law 877 = .ok (.ifCond .eq 5, 3) := by decide +kernel
theorem dL_law_880 : decode cL_law 880 = .ok (.iconst 0, 1) := by decide +kernel
theorem dL_law_881 : decode cL_law 881 = .ok (.ireturn, 1) := by decide +kernel
theorem dL_law_882 : decode cL_law 882 = .ok (.iinc 24 1, 3) := by decide +kernel
theorem dL_law_885 : decode cL_law 885 = .ok (.goto (-106), 3) := by decide +kernel
theorem dL_law_888 : decode cL_law 888 = .ok (.aload_n 1, 1) := by decide +kernel
theorem dL_law_889 : decode cL_law 889 = .ok (.iload 17, 2) := by decide +kernel
theorem dL_law_891 : decode cL_law 891 = .ok (.iconst 0, 1) := by decide +kernel
theorem dL_law_892 : decode cL_law 892 = .ok (.invokevirtual 97, 3) := by decide +kernel
theorem dL_law_895 : decode cL_law 895 = .ok (.lstore 24, 2) := by decide +kernel
theorem dL_law_897 : decode cL_law 897 = .ok (.aload_n 1, 1) := by decide +kernel
theorem dL_law_898 : decode cL_law 898 = .ok (.iload 17, 2) := by decide +kernel
theorem dL_law_900 : decode cL_law 900 = .ok (.iconst 1, 1) := by decide +kernel
theorem dL_law_901 : decode cL_law 901 = .ok (.invokevirtual 97, 3) := by decide +kernel
theorem dL_law_904 : decode cL_law 904 = .ok (.lstore 26, 2) := by decide +kernel
theorem dL_law_906 : decode cL_law 906 = .ok (.lload 26, 2) := by decide +kernel
theorem dL_law_908 : decode cL_law 908 = .ok (.lconst 1, 1) := by decide +kernel
theorem dL_law_909 : decode cL_law 909 = .ok (.lcmp, 1) := by decide +kernel
theorem dL_law_910 : decode cL_law 910 = .ok (.ifCond .lt 46, 3) := by decide +kernel
theorem dL_law_913 : decode cL_law 913 = .ok (.aload_n 2, 1) := by decide +kernel
theorem dL_law_914 : decode cL_law 914 = .ok (.iconst 1, 1) := by decide +kernel
theorem dL_law_915 : decode cL_law 915 = .ok (.iaload, 1) := by decide +kernel
theorem dL_law_916 : decode cL_law 916 = .ok (.i2l, 1) := by decide +kernel
theorem dL_law_917 : decode cL_law 917 = .ok (.lload 26, 2) := by decide +kernel
theorem dL_law_919 : decode cL_law 919 = .ok (.lrem, 1) := by decide +kernel
theorem dL_law_920 : decode cL_law 920 = .ok (.lconst 0, 1) := by decide +kernel
theorem dL_law_921 : decode cL_law 921 = .ok (.lcmp, 1) := by decide +kernel
theorem dL_law_922 : decode cL_law 922 = .ok (.ifCond .ne 34, 3) := by decide +kernel
theorem dL_law_925 : decode cL_law 925 = .ok (.lload 24, 2) := by decide +kernel
theorem dL_law_927 : decode cL_law 927 = .ok (.aload_n 2, 1) := by decide +kernel
theorem dL_law_928 : decode cL_law 928 = .ok (.iconst 1, 1) := by decide +kernel
theorem dL_law_929 : decode cL_law 929 = .ok (.iaload, 1) := by decide +kernel
theorem dL_law_930 : decode cL_law 930 = .ok (.i2l, 1) := by decide +kernel
theorem dL_law_931 : decode cL_law 931 = .ok (.lload 26, 2) := by decide +kernel
theorem dL_law_933 : decode cL_law 933 = .ok (.ldiv, 1) := by decide +kernel
theorem dL_law_934 : decode cL_law 934 = .ok (.lmul, 1) := by decide +kernel
theorem dL_law_935 : decode cL_law 935 = .ok (.iload 21, 2) := by decide +kernel
theorem dL_law_937 : decode cL_law 937 = .ok (.i2l, 1) := by decide +kernel
theorem dL_law_938 : decode cL_law 938 = .ok (.lcmp, 1) := by decide +kernel
theorem dL_law_939 : decode cL_law 939 = .ok (.ifCond .ne 17, 3) := by decide +kernel
theorem dL_law_942 : decode cL_law 942 = .ok (.aload_n 1, 1) := by decide +kernel
theorem dL_law_943 : decode cL_law 943 = .ok (.iload 17, 2) := by decide +kernel
theorem dL_law_945 : decode cL_law 945 = .ok (.iconst 2, 1) := by decide +kernel
theorem dL_law_946 : decode cL_law 946 = .ok (.invokevirtual 97, 3) := by decide +kernel
theorem dL_law_949 : decode cL_law 949 = .ok (.ldc2_w 88, 3) := by decide +kernel
theorem dL_law_952 : decode cL_law 952 = .ok (.lcmp, 1) := by decide +kernel
theorem dL_law_953 : decode cL_law 953 = .ok (.ifCond .eq 5, 3) := by decide +kernel
theorem dL_law_956 : decode cL_law 956 = .ok (.iconst 0, 1) := by decide +kernel
theorem dL_law_957 : decode cL_law 957 = .ok (.ireturn, 1) := by decide +kernel
theorem dL_law_958 : decode cL_law 958 = .ok (.iconst 0, 1) := by decide +kernel
theorem dL_law_959 : decode cL_law 959 = .ok (.istore 28, 2) := by decide +kernel
theorem dL_law_961 : decode cL_law 961 = .ok (.iload 28, 2) := by decide +kernel
theorem dL_law_963 : decode cL_law 963 = .ok (.aload_n 2, 1) := by decide +kernel
theorem dL_law_964 : decode cL_law 964 = .ok (.bipush 9, 2) := by decide +kernel
theorem dL_law_966 : decode cL_law 966 = .ok (.iload 17, 2) := by decide +kernel
theorem dL_law_968 : decode cL_law 968 = .ok (.iadd, 1) := by decide +kernel
theorem dL_law_969 : decode cL_law 969 = .ok (.iaload, 1) := by decide +kernel
theorem dL_law_970 : decode cL_law 970 = .ok (.if_icmp .ge 139, 3) := by decide +kernel
theorem dL_law_973 : decode cL_law 973 = .ok (.iconst 0, 1) := by decide +kernel
theorem dL_law_974 : decode cL_law 974 = .ok (.istore 29, 2) := by decide +kernel
theorem dL_law_976 : decode cL_law 976 = .ok (.iconst 0, 1) := by decide +kernel
theorem dL_law_977 : decode cL_law 977 = .ok (.istore 30, 2) := by decide +kernel
theorem dL_law_979 : decode cL_law 979 = .ok (.iload 30, 2) := by decide +kernel
theorem dL_law_981 : decode cL_law 981 = .ok (.iload 4, 2) := by decide +kernel
theorem dL_law_983 : decode cL_law 983 = .ok (.if_icmp .ge 105, 3) := by decide +kernel
theorem dL_law_986 : decode cL_law 986 = .ok (.iconst 0, 1) := by decide +kernel
theorem dL_law_987 : decode cL_law 987 = .ok (.istore 31, 2) := by decide +kernel
theorem dL_law_989 : decode cL_law 989 = .ok (.aload_n 2, 1) := by decide +kernel
theorem dL_law_990 : decode cL_law 990 = .ok (.bipush 14, 2) := by decide +kernel
theorem dL_law_992 : decode cL_law 992 = .ok (.iload 31, 2) := by decide +kernel
theorem dL_law_994 : decode cL_law 994 = .ok (.iadd, 1) := by decide +kernel
theorem dL_law_995 : decode cL_law 995 = .ok (.iaload, 1) := by decide +kernel
theorem dL_law_996 : decode cL_law 996 = .ok (.iload 30, 2) := by decide +kernel
theorem dL_law_998 : decode cL_law 998 = .ok (.if_icmp .eq 9, 3) := by decide +kernel
theorem dL_law_1001 : decode cL_law 1001 = .ok (.iinc 31 1, 3) := by decide +kernel
theorem dL_law_1004 : decode cL_law 1004 = .ok (.goto (-15), 3) := by decide +kernel
theorem dL_law_1007 : decode cL_law 1007 = .ok (.iconst (-1), 1) := by decide +kernel
theorem dL_law_1008 : decode cL_law 1008 = .ok (.istore 32, 2) := by decide +kernel
theorem dL_law_1010 : decode cL_law 1010 = .ok (.iload 32, 2) := by decide +kernel
theorem dL_law_1012 : decode cL_law 1012 = .ok (.aload_n 2, 1) := by decide +kernel
theorem dL_law_1013 : decode cL_law 1013 = .ok (.bipush 9, 2) := by decide +kernel
theorem dL_law_1015 : decode cL_law 1015 = .ok (.iload 30, 2) := by decide +kernel
theorem dL_law_1017 : decode cL_law 1017 = .ok (.iadd, 1) := by decide +kernel
theorem dL_law_1018 : decode cL_law 1018 = .ok (.iaload, 1) := by decide +kernel
theorem dL_law_1019 : decode cL_law 1019 = .ok (.if_icmp .ge 63, 3) := by decide +kernel
theorem dL_law_1022 : decode cL_law 1022 = .ok (.iload 30, 2) := by decide +kernel
theorem dL_law_1024 : decode cL_law 1024 = .ok (.iload 17, 2) := by decide +kernel
theorem dL_law_1026 : decode cL_law 1026 = .ok (.if_icmp .eq 56, 3) := by decide +kernel
theorem dL_law_1029 : decode cL_law 1029 = .ok (.iload 29, 2) := by decide +kernel
theorem dL_law_1031 : decode cL_law 1031 = .ok (.aload_n 2, 1) := by decide +kernel
theorem dL_law_1032 : decode cL_law 1032 = .ok (.aload_n 2, 1) := by decide +kernel
theorem dL_law_1033 : decode cL_law 1033 = .ok (.aload_n 3, 1) := by decide +kernel
theorem dL_law_1034 : decode cL_law 1034 = .ok (.aload 11, 2) := by decide +kernel
theorem dL_law_1036 : decode cL_law 1036 = .ok (.aload 12, 2) := by decide +kernel
theorem dL_law_1038 : decode cL_law 1038 = .ok (.iload 31, 2) := by decide +kernel
theorem dL_law_1040 : decode cL_law 1040 = .ok (.iload 32, 2) := by decide +kernel
theorem dL_law_1042 : decode cL_law 1042 = .ok (.ifCond .ge 8, 3) := by decide +kernel
theorem dL_law_1045 : decode cL_law 1045 = .ok (.bipush (-9), 2) := by decide +kernel
theorem dL_law_1047 : decode cL_law 1047 = .ok (.goto 5, 3) := by decide +kernel
theorem dL_law_1050 : decode cL_law 1050 = .ok (.iload 32, 2) := by decide +kernel
theorem dL_law_1052 : decode cL_law 1052 = .ok (.invokestatic 84, 3) := by decide +kernel
theorem dL_law_1055 : decode cL_law 1055 = .ok (.iload 17, 2) := by decide +kernel
theorem dL_law_1057 : decode cL_law 1057 = .ok (.iload 28, 2) := by decide +kernel
theorem dL_law_1059 : decode cL_law 1059 = .ok (.invokestatic 100, 3) := by decide +kernel
theorem dL_law_1062 : decode cL_law 1062 = .ok (.ifCond .eq 7, 3) := by decide +kernel
theorem dL_law_1065 : decode cL_law 1065 = .ok (.iconst 0, 1) := by decide +kernel
theorem dL_law_1066 : decode cL_law 1066 = .ok (.goto 7, 3) := by decide +kernel
theorem dL_law_1069 : decode cL_law 1069 = .ok (.iconst 1, 1) := by decide +kernel
theorem dL_law_1070 : decode cL_law 1070 = .ok (.iload 30, 2) := by decide +kernel
theorem dL_law_1072 : decode cL_law 1072 = .ok (.ishl, 1) := by decide +kernel
theorem dL_law_1073 : decode cL_law 1073 = .ok (.ior, 1) := by decide +kernel
theorem dL_law_1074 : decode cL_law 1074 = .ok (.istore 29, 2) := by decide +kernel
theorem dL_law_1076 : decode cL_law 1076 = .ok (.iinc 32 1, 3) := by decide +kernel
theorem dL_law_1079 : decode cL_law 1079 = .ok (.goto (-69), 3) := by decide +kernel
theorem dL_law_1082 : decode cL_law 1082 = .ok (.iinc 30 1, 3) := by decide +kernel
theorem dL_law_1085 : decode cL_law 1085 = .ok (.goto (-106), 3) := by decide +kernel
theorem dL_law_1088 : decode cL_law 1088 = .ok (.aload_n 1, 1) := by decide +kernel
theorem dL_law_1089 : decode cL_law 1089 = .ok (.iload 17, 2) := by decide +kernel
theorem dL_law_1091 : decode cL_law 1091 = .ok (.iload 28, 2) := by decide +kernel
theorem dL_law_1093 : decode cL_law 1093 = .ok (.invokevirtual 104, 3) := by decide +kernel
theorem dL_law_1096 : decode cL_law 1096 = .ok (.iload 29, 2) := by decide +kernel
theorem dL_law_1098 : decode cL_law 1098 = .ok (.if_icmp .eq 5, 3) := by decide +kernel
theorem dL_law_1101 : decode cL_law 1101 = .ok (.iconst 0, 1) := by decide +kernel
theorem dL_law_1102 : decode cL_law 1102 = .ok (.ireturn, 1) := by decide +kernel
theorem dL_law_1103 : decode cL_law 1103 = .ok (.iinc 28 1, 3) := by decide +kernel
theorem dL_law_1106 : decode cL_law 1106 = .ok (.goto (-145), 3) := by decide +kernel
theorem dL_law_1109 : decode cL_law 1109 = .ok (.aload_n 1, 1) := by decide +kernel
theorem dL_law_1110 : decode cL_law 1110 = .ok (.iload 17, 2) := by decide +kernel
theorem dL_law_1112 : decode cL_law 1112 = .ok (.aload_n 2, 1) := by decide +kernel
theorem dL_law_1113 : decode cL_law 1113 = .ok (.bipush 9, 2) := by decide +kernel
theorem dL_law_1115 : decode cL_law 1115 = .ok (.iload 17, 2) := by decide +kernel
theorem dL_law_1117 : decode cL_law 1117 = .ok (.iadd, 1) := by decide +kernel
theorem dL_law_1118 : decode cL_law 1118 = .ok (.iaload, 1) := by decide +kernel
theorem dL_law_1119 : decode cL_law 1119 = .ok (.invokevirtual 104, 3) := by decide +kernel
theorem dL_law_1122 : decode cL_law 1122 = .ok (.iconst (-1), 1) := by decide +kernel
theorem dL_law_1123 : decode cL_law 1123 = .ok (.if_icmp .eq 5, 3) := by decide +kernel
theorem dL_law_1126 : decode cL_law 1126 = .ok (.iconst 0, 1) := by decide +kernel
theorem dL_law_1127 : decode cL_law 1127 = .ok (.ireturn, 1) := by decide +kernel
theorem dL_law_1128 : decode cL_law 1128 = .ok (.iinc 17 1, 3) := by decide +kernel
theorem dL_law_1131 : decode cL_law 1131 = .ok (.goto (-569), 3) := by decide +kernel
theorem dL_law_1134 : decode cL_law 1134 = .ok (.iconst 0, 1) := by decide +kernel
theorem dL_law_1135 : decode cL_law 1135 = .ok (.istore 17, 2) := by decide +kernel
theorem dL_law_1137 : decode cL_law 1137 = .ok (.iconst (-1), 1) := by decide +kernel
theorem dL_law_1138 : decode cL_law 1138 = .ok (.istore 18, 2) := by decide +kernel
theorem dL_law_1140 : decode cL_law 1140 = .ok (.iconst 0, 1) := by decide +kernel
theorem dL_law_1141 : decode cL_law 1141 = .ok (.istore 19, 2) := by decide +kernel
theorem dL_law_1143 : decode cL_law 1143 = .ok (.iload 19, 2) := by decide +kernel
theorem dL_law_1145 : decode cL_law 1145 = .ok (.iconst 4, 1) := by decide +kernel
theorem dL_law_1146 : decode cL_law 1146 = .ok (.if_icmp .ge 49, 3) := by decide +kernel
theorem dL_law_1149 : decode cL_law 1149 = .ok (.aload_n 1, 1) := by decide +kernel
theorem dL_law_1150 : decode cL_law 1150 = .ok (.iload 19, 2) := by decide +kernel
theorem dL_law_1152 : decode cL_law 1152 = .ok (.invokevirtual 107, 3) := by decide +kernel
theorem dL_law_1155 : decode cL_law 1155 = .ok (.istore 20, 2) := by decide +kernel
theorem dL_law_1157 : decode cL_law 1157 = .ok (.iload 20, 2) := by decide +kernel
theorem dL_law_1159 : decode cL_law 1159 = .ok (.iload 18, 2) := by decide +kernel
theorem dL_law_1161 : decode cL_law 1161 = .ok (.if_icmp .le 8, 3) := by decide +kernel
theorem dL_law_1164 : decode cL_law 1164 = .ok (.iload 19, 2) := by decide +kernel
theorem dL_law_1166 : decode cL_law 1166 = .ok (.goto 5, 3) := by decide +kernel
theorem dL_law_1169 : decode cL_law 1169 = .ok (.iload 17, 2) := by decide +kernel
theorem dL_law_1171 : decode cL_law 1171 = .ok (.istore 17, 2) := by decide +kernel
theorem dL_law_1173 : decode cL_law 1173 = .ok (.iload 20, 2) := by decide +kernel
theorem dL_law_1175 : decode cL_law 1175 = .ok (.iload 18, 2) := by decide +kernel
theorem dL_law_1177 : decode cL_law 1177 = .ok (.if_icmp .le 8, 3) := by decide +kernel
theorem dL_law_1180 : decode cL_law 1180 = .ok (.iload 20, 2) := by decide +kernel
theorem dL_law_1182 : decode cL_law 1182 = .ok (.goto 5, 3) := by decide +kernel
theorem dL_law_1185 : decode cL_law 1185 = .ok (.iload 18, 2) := by decide +kernel
theorem dL_law_1187 : decode cL_law 1187 = .ok (.istore 18, 2) := by decide +kernel
theorem dL_law_1189 : decode cL_law 1189 = .ok (.iinc 19 1, 3) := by decide +kernel
theorem dL_law_1192 : decode cL_law 1192 = .ok (.goto (-49), 3) := by decide +kernel
theorem dL_law_1195 : decode cL_law 1195 = .ok (.aload_n 1, 1) := by decide +kernel
theorem dL_law_1196 : decode cL_law 1196 = .ok (.iload 9, 2) := by decide +kernel
theorem dL_law_1198 : decode cL_law 1198 = .ok (.invokevirtual 107, 3) := by decide +kernel
theorem dL_law_1201 : decode cL_law 1201 = .ok (.aload 13, 2) := by decide +kernel
theorem dL_law_1203 : decode cL_law 1203 = .ok (.iload 4, 2) := by decide +kernel
theorem dL_law_1205 : decode cL_law 1205 = .ok (.invokestatic 110, 3) := by decide +kernel
theorem dL_law_1208 : decode cL_law 1208 = .ok (.if_icmp .ne 34, 3) := by decide +kernel
theorem dL_law_1211 : decode cL_law 1211 = .ok (.aload_n 1, 1) := by decide +kernel
theorem dL_law_1212 : decode cL_law 1212 = .ok (.iconst (-1), 1) := by decide +kernel
theorem dL_law_1213 : decode cL_law 1213 = .ok (.invokevirtual 107, 3) := by decide +kernel
theorem dL_law_1216 : decode cL_law 1216 = .ok (.iload 17, 2) := by decide +kernel
theorem dL_law_1218 : decode cL_law 1218 = .ok (.if_icmp .ne 24, 3) := by decide +kernel
theorem dL_law_1221 : decode cL_law 1221 = .ok (.aload_n 1, 1) := by decide +kernel
theorem dL_law_1222 : decode cL_law 1222 = .ok (.bipush (-2), 2) := by decide +kernel
theorem dL_law_1224 : decode cL_law 1224 = .ok (.invokevirtual 107, 3) := by decide +kernel
theorem dL_law_1227 : decode cL_law 1227 = .ok (.bipush (-2), 2) := by decide +kernel
theorem dL_law_1229 : decode cL_law 1229 = .ok (.if_icmp .ne 13, 3) := by decide +kernel
theorem dL_law_1232 : decode cL_law 1232 = .ok (.aload_n 1, 1) := by decide +kernel
theorem dL_law_1233 : decode cL_law 1233 = .ok (.iconst 3, 1) := by decide +kernel
theorem dL_law_1234 : decode cL_law 1234 = .ok (.invokevirtual 113, 3) := by decide +kernel
theorem dL_law_1237 : decode cL_law 1237 = .ok (.iload 9, 2) := by decide +kernel
theorem dL_law_1239 : decode cL_law 1239 = .ok (.if_icmp .eq 5, 3) := by decide +kernel
theorem dL_law_1242 : decode cL_law 1242 = .ok (.iconst 0, 1) := by decide +kernel
theorem dL_law_1243 : decode cL_law 1243 = .ok (.ireturn, 1) := by decide +kernel
theorem dL_law_1244 : decode cL_law 1244 = .ok (.aload_n 0, 1) := by decide +kernel
theorem dL_law_1245 : decode cL_law 1245 = .ok (.bipush 14, 2) := by decide +kernel
theorem dL_law_1247 : decode cL_law 1247 = .ok (.iload 5, 2) := by decide +kernel
theorem dL_law_1249 : decode cL_law 1249 = .ok (.iadd, 1) := by decide +kernel
theorem dL_law_1250 : decode cL_law 1250 = .ok (.invokestatic 9, 3) := by decide +kernel
theorem dL_law_1253 : decode cL_law 1253 = .ok (.iconst 4, 1) := by decide +kernel
theorem dL_law_1254 : decode cL_law 1254 = .ok (.invokestatic 15, 3) := by decide +kernel
theorem dL_law_1257 : decode cL_law 1257 = .ok (.istore 19, 2) := by decide +kernel
theorem dL_law_1259 : decode cL_law 1259 = .ok (.aload_n 0, 1) := by decide +kernel
theorem dL_law_1260 : decode cL_law 1260 = .ok (.bipush 14, 2) := by decide +kernel
theorem dL_law_1262 : decode cL_law 1262 = .ok (.iload 5, 2) := by decide +kernel
theorem dL_law_1264 : decode cL_law 1264 = .ok (.iadd, 1) := by decide +kernel
theorem dL_law_1265 : decode cL_law 1265 = .ok (.invokestatic 9, 3) := by decide +kernel
theorem dL_law_1268 : decode cL_law 1268 = .ok (.iconst 2, 1) := by decide +kernel
theorem dL_law_1269 : decode cL_law 1269 = .ok (.ishr, 1) := by decide +kernel
theorem dL_law_1270 : decode cL_law 1270 = .ok (.bipush 10, 2) := by decide +kernel
theorem dL_law_1272 : decode cL_law 1272 = .ok (.invokestatic 15, 3) := by decide +kernel
theorem dL_law_1275 : decode cL_law 1275 = .ok (.istore 20, 2) := by decide +kernel
theorem dL_law_1277 : decode cL_law 1277 = .ok (.iconst 4, 1) := by decide +kernel
theorem dL_law_1278 : decode cL_law 1278 = .ok (.newarray .int, 2) := by decide +kernel
theorem dL_law_1280 : decode cL_law 1280 = .ok (.astore 21, 2) := by decide +kernel
theorem dL_law_1282 : decode cL_law 1282 = .ok (.bipush 24, 2) := by decide +kernel
theorem dL_law_1284 : decode cL_law 1284 = .ok (.newarray .int, 2) := by decide +kernel
theorem dL_law_1286 : decode cL_law 1286 = .ok (.astore 22, 2) := by decide +kernel
theorem dL_law_1288 : decode cL_law 1288 = .ok (.iconst 0, 1) := by decide +kernel
theorem dL_law_1289 : decode cL_law 1289 = .ok (.istore 23, 2) := by decide +kernel
theorem dL_law_1291 : decode cL_law 1291 = .ok (.iload 23, 2) := by decide +kernel
theorem dL_law_1293 : decode cL_law 1293 = .ok (.iconst 4, 1) := by decide +kernel
theorem dL_law_1294 : decode cL_law 1294 = .ok (.if_icmp .ge 207, 3) := by decide +kernel
theorem dL_law_1297 : decode cL_law 1297 = .ok (.bipush 6, 2) := by decide +kernel
theorem dL_law_1299 : decode cL_law 1299 = .ok (.newarray .int, 2) := by decide +kernel
theorem dL_law_1301 : decode cL_law 1301 = .ok (.astore 24, 2) := by decide +kernel
theorem dL_law_1303 : decode cL_law 1303 = .ok (.iconst 0, 1) := by decide +kernel
theorem dL_law_1304 : decode cL_law 1304 = .ok (.istore 25, 2) := by decide +kernel
theorem dL_law_1306 : decode cL_law 1306 = .ok (.iload 25, 2) := by decide +kernel
theorem dL_law_1308 : decode cL_law 1308 = .ok (.iload 10, 2) := by decide +kernel
theorem dL_law_1310 : decode cL_law 1310 = .ok (.if_icmp .ge 96, 3) := by decide +kernel
theorem dL_law_1313 : decode cL_law 1313 = .ok (.aload_n 0, 1) := by decide +kernel
theorem dL_law_1314 : decode cL_law 1314 = .ok (.bipush 16, 2) := by decide +kernel
theorem dL_law_1316 : decode cL_law 1316 = .ok (.iconst 4, 1) := by decide +kernel
theorem dL_law_1317 : decode cL_law 1317 = .ok (.iload 5, 2) := by decide +kernel
theorem dL_law_1319 : decode cL_law 1319 = .ok (.imul, 1) := by decide +kernel
theorem dL_law_1320 : decode cL_law 1320 = .ok (.iadd, 1) := by decide +kernel
theorem dL_law_1321 : decode cL_law 1321 = .ok (.iload 23, 2) := by decide +kernel
theorem dL_law_1323 : decode cL_law 1323 = .ok (.iadd, 1) := by decide +kernel
theorem dL_law_1324 : decode cL_law 1324 = .ok (.invokestatic 9, 3) := by decide +kernel
theorem dL_law_1327 : decode cL_law 1327 = .ok (.iconst 3, 1) := by decide +kernel
theorem dL_law_1328 : decode cL_law 1328 = .ok (.iload 25, 2) := by decide +kernel
theorem dL_law_1330 : decode cL_law 1330 = .ok (.imul, 1) := by decide +kernel
theorem dL_law_1331 : decode cL_law 1331 = .ok (.ishr, 1) := by decide +kernel
theorem dL_law_1332 : decode cL_law 1332 = .ok (.iconst 4, 1) := by decide +kernel
theorem dL_law_1333 : decode cL_law 1333 = .ok (.invokestatic 15, 3) := by decide +kernel
theorem dL_law_1336 : decode cL_law 1336 = .ok (.istore 26, 2) := by decide +kernel
theorem dL_law_1338 : decode cL_law 1338 = .ok (.aload 24, 2) := by decide +kernel
theorem dL_law_1340 : decode cL_law 1340 = .ok (.iload 25, 2) := by decide +kernel
theorem dL_law_1342 : decode cL_law 1342 = .ok (.iload 26, 2) := by decide +kernel
theorem dL_law_1344 : decode cL_law 1344 = .ok (.aload_n 2, 1) := by decide +kernel
theorem dL_law_1345 : decode cL_law 1345 = .ok (.bipush 9, 2) := by decide +kernel
theorem dL_law_1347 : decode cL_law 1347 = .ok (.aload_n 2, 1) := by decide +kernel
theorem dL_law_1348 : decode cL_law 1348 = .ok (.iload 25, 2) := by decide +kernel
theorem dL_law_1350 : decode cL_law 1350 = .ok (.invokestatic 33, 3) := by decide +kernel
theorem dL_law_1353 : decode cL_law 1353 = .ok (.iadd, 1) := by decide +kernel
theorem dL_law_1354 : decode cL_law 1354 = .ok (.iaload, 1) := by decide +kernel
theorem dL_law_1355 : decode cL_law 1355 = .ok (.if_icmp .lt 8, 3) := by decide +kernel
theorem dL_law_1358 : decode cL_law 1358 = .ok (.bipush (-9), 2) := by decide +kernel
theorem dL_law_1360 : decode cL_law 1360 = .ok (.goto 5, 3) := by decide +kernel
theorem dL_law_1363 : decode cL_law 1363 = .ok (.iload 26, 2) := by decide +kernel
theorem dL_law_1365 : decode cL_law 1365 = .ok (.iastore, 1) := by decide +kernel
theorem dL_law_1366 : decode cL_law 1366 = .ok (.aload 22, 2) := by decide +kernel
theorem dL_law_1368 : decode cL_law 1368 = .ok (.bipush 6, 2) := by decide +kernel
theorem dL_law_1370 : decode cL_law 1370 = .ok (.iload 23, 2) := by decide +kernel
theorem dL_law_1372 : decode cL_law 1372 = .ok (.imul, 1) := by decide +kernel
theorem dL_law_1373 : decode cL_law 1373 = .ok (.iload 25, 2) := by decide +kernel
theorem dL_law_1375 : decode cL_law 1375 = .ok (.iadd, 1) := by decide +kernel
theorem dL_law_1376 : decode cL_law 1376 = .ok (.aload 24, 2) := by decide +kernel
theorem dL_law_1378 : decode cL_law 1378 = .ok (.iload 25, 2) := by decide +kernel
theorem dL_law_1380 : decode cL_law 1380 = .ok (.iaload, 1) := by decide +kernel
theorem dL_law_1381 : decode cL_law 1381 = .ok (.iastore, 1) := by decide +kernel
theorem dL_law_1382 : decode cL_law 1382 = .ok (.aload_n 1, 1) := by decide +kernel
theorem dL_law_1383 : decode cL_law 1383 = .ok (.iconst 1, 1) := by decide +kernel
theorem dL_law_1384 : decode cL_law 1384 = .ok (.iload 25, 2) := by decide +kernel
theorem dL_law_1386 : decode cL_law 1386 = .ok (.aload 24, 2) := by decide +kernel
theorem dL_law_1388 : decode cL_law 1388 = .ok (.iload 25, 2) := by decide +kernel
theorem dL_law_1390 : decode cL_law 1390 = .ok (.iaload, 1) := by decide +kernel
theorem dL_law_1391 : decode cL_law 1391 = .ok (.invokevirtual 19, 3) := by decide +kernel
theorem dL_law_1394 : decode cL_law 1394 = .ok (.iconst 1, 1) := by decide +kernel
theorem dL_law_1395 : decode cL_law 1395 = .ok (.if_icmp .eq 5, 3) := by decide +kernel
theorem dL_law_1398 : decode cL_law 1398 = .ok (.iconst 0, 1) := by decide +kernel
theorem dL_law_1399 : decode cL_law 1399 = .ok (.ireturn, 1) := by decide +kernel
theorem dL_law_1400 : decode cL_law 1400 = .ok (.iinc 25 1, 3) := by decide +kernel
theorem dL_law_1403 : decode cL_law 1403 = .ok (.goto (-97), 3) := by decide +kernel
theorem dL_law_1406 : decode cL_law 1406 = .ok (.aload 21, 2) := by decide +kernel
theorem dL_law_1408 : decode cL_law 1408 = .ok (.iload 23, 2) := by decide +kernel
theorem dL_law_1410 : decode cL_law 1410 = .ok (.aload_n 2, 1) := by decide +kernel
theorem dL_law_1411 : decode cL_law 1411 = .ok (.aload_n 3, 1) := by decide +kernel
theorem dL_law_1412 : decode cL_law 1412 = .ok (.aload 24, 2) := by decide +kernel
theorem dL_law_1414 : decode cL_law 1414 = .ok (.iload 10, 2) := by decide +kernel
theorem dL_law_1416 : decode cL_law 1416 = .ok (.iload 23, 2) := by decide +kernel
theorem dL_law_1418 : decode cL_law 1418 = .ok (.iload 19, 2) := by decide +kernel
theorem dL_law_1420 : decode cL_law 1420 = .ok (.if_icmp .ge 7, 3) := by decide +kernel
theorem dL_law_1423 : decode cL_law 1423 = .ok (.iconst 0, 1) := by decide +kernel
theorem dL_law_1424 : decode cL_law 1424 = .ok (.goto 5, 3) := by decide +kernel
theorem dL_law_1427 : decode cL_law 1427 = .ok (.iload 20, 2) := by decide +kernel
theorem dL_law_1429 : decode cL_law 1429 = .ok (.invokestatic 77, 3) := by decide +kernel
theorem dL_law_1432 : decode cL_law 1432 = .ok (.iconst 2, 1) := by decide +kernel
theorem dL_law_1433 : decode cL_law 1433 = .ok (.iaload, 1) := by decide +kernel
theorem dL_law_1434 : decode cL_law 1434 = .ok (.iastore, 1) := by decide +kernel
theorem dL_law_1435 : decode cL_law 1435 = .ok (.aload_n 1, 1) := by decide +kernel
theorem dL_law_1436 : decode cL_law 1436 = .ok (.iconst 1, 1) := by decide +kernel
theorem dL_law_1437 : decode cL_law 1437 = .ok (.iconst 1, 1) := by decide +kernel
theorem dL_law_1438 : decode cL_law 1438 = .ok (.iconst 0, 1) := by decide +kernel
theorem dL_law_1439 : decode cL_law 1439 = .ok (.aload 21, 2) := by decide +kernel
theorem dL_law_1441 : decode cL_law 1441 = .ok (.iload 23, 2) := by decide +kernel
theorem dL_law_1443 : decode cL_law 1443 = .ok (.iaload, 1) := by decide +kernel
theorem dL_law_1444 : decode cL_law 1444 = .ok (.invokevirtual 116, 3) := by decide +kernel
theorem dL_law_1447 : decode cL_law 1447 = .ok (.iload 23, 2) := by decide +kernel
theorem dL_law_1449 : decode cL_law 1449 = .ok (.if_icmp .ne 44, 3) := by decide +kernel
theorem dL_law_1452 : decode cL_law 1452 = .ok (.aload_n 1, 1) := by decide +kernel
theorem dL_law_1453 : decode cL_law 1453 = .ok (.iconst 1, 1) := by decide +kernel
theorem dL_law_1454 : decode cL_law 1454 = .ok (.iconst 1, 1) := by decide +kernel
theorem dL_law_1455 : decode cL_law 1455 = .ok (.iconst 0, 1) := by decide +kernel
theorem dL_law_1456 : decode cL_law 1456 = .ok (.bipush 100, 2) := by decide +kernel
theorem dL_law_1458 : decode cL_law 1458 = .ok (.invokevirtual 116, 3) := by decide +kernel
theorem dL_law_1461 : decode cL_law 1461 = .ok (.bipush (-2), 2) := by decide +kernel
theorem dL_law_1463 : decode cL_law 1463 = .ok (.if_icmp .ne 30, 3) := by decide +kernel
theorem dL_law_1466 : decode cL_law 1466 = .ok (.aload_n 1, 1) := by decide +kernel
theorem dL_law_1467 : decode cL_law 1467 = .ok (.iconst 1, 1) := by decide +kernel
theorem dL_law_1468 : decode cL_law 1468 = .ok (.iconst 0, 1) := by decide +kernel
theorem dL_law_1469 : decode cL_law 1469 = .ok (.iconst 0, 1) := by decide +kernel
theorem dL_law_1470 : decode cL_law 1470 = .ok (.iconst 0, 1) := by decide +kernel
theorem dL_law_1471 : decode cL_law 1471 = .ok (.invokevirtual 116, 3) := by decide +kernel
theorem dL_law_1474 : decode cL_law 1474 = .ok (.bipush (-12), 2) := by decide +kernel
theorem dL_law_1476 : decode cL_law 1476 = .ok (.if_icmp .ne 17, 3) := by decide +kernel
theorem dL_law_1479 : decode cL_law 1479 = .ok (.aload_n 1, 1) := by decide +kernel
theorem dL_law_1480 : decode cL_law 1480 = .ok (.iconst 1, 1) := by decide +kernel
theorem dL_law_1481 : decode cL_law 1481 = .ok (.iconst 1, 1) := by decide +kernel
theorem dL_law_1482 : decode cL_law 1482 = .ok (.bipush 6, 2) := by decide +kernel
theorem dL_law_1484 : decode cL_law 1484 = .ok (.iconst 0, 1) := by decide +kernel
theorem dL_law_1485 : decode cL_law 1485 = .ok (.invokevirtual 116, 3) := by decide +kernel
theorem dL_law_1488 : decode cL_law 1488 = .ok (.bipush (-13), 2) := by decide +kernel
theorem dL_law_1490 : decode cL_law 1490 = .ok (.if_icmp .eq 5, 3) := by decide +kernel
theorem dL_law_1493 : decode cL_law 1493 = .ok (.iconst 0, 1) := by decide +kernel
theorem dL_law_1494 : decode cL_law 1494 = .ok (.ireturn, 1) := by decide +kernel
theorem dL_law_1495 : decode cL_law 1495 = .ok (.iinc 23 1, 3) := by decide +kernel
theorem dL_law_1498 : decode cL_law 1498 = .ok (.goto (-207), 3) := by decide +kernel
theorem dL_law_1501 : decode cL_law 1501 = .ok (.iconst 0, 1) := by decide +kernel
theorem dL_law_1502 : decode cL_law 1502 = .ok (.istore 23, 2) := by decide +kernel
theorem dL_law_1504 : decode cL_law 1504 = .ok (.bipush (-9), 2) := by decide +kernel
theorem dL_law_1506 : decode cL_law 1506 = .ok (.istore 24, 2) := by decide +kernel
theorem dL_law_1508 : decode cL_law 1508 = .ok (.bipush 49, 2) := by decide +kernel
theorem dL_law_1510 : decode cL_law 1510 = .ok (.istore 25, 2) := by decide +kernel
theorem dL_law_1512 : decode cL_law 1512 = .ok (.iload 25, 2) := by decide +kernel
theorem dL_law_1514 : decode cL_law 1514 = .ok (.ifCond .lt 144, 3) := by decide +kernel
theorem dL_law_1517 : decode cL_law 1517 = .ok (.iconst 1, 1) := by decide +kernel
theorem dL_law_1518 : decode cL_law 1518 = .ok (.istore 26, 2) := by decide +kernel
theorem dL_law_1520 : decode cL_law 1520 = .ok (.iconst 0, 1) := by decide +kernel
theorem dL_law_1521 : decode cL_law 1521 = .ok (.istore 27, 2) := by decide +kernel
theorem dL_law_1523 : decode cL_law 1523 = .ok (.iload 27, 2) := by decide +kernel
theorem dL_law_1525 : decode cL_law 1525 = .ok (.iconst 4, 1) := by decide +kernel
theorem dL_law_1526 : decode cL_law 1526 = .ok (.if_icmp .ge 97, 3) := by decide +kernel
theorem dL_law_1529 : decode cL_law 1529 = .ok (.bipush 6, 2) := by decide +kernel
theorem dL_law_1531 : decode cL_law 1531 = .ok (.newarray .int, 2) := by decide +kernel
theorem dL_law_1533 : decode cL_law 1533 = .ok (.astore 28, 2) := by decide +kernel
theorem dL_law_1535 : decode cL_law 1535 = .ok (.iconst 0, 1) := by decide +kernel
theorem dL_law_1536 : decode cL_law 1536 = .ok (.istore 29, 2) := by decide +kernel
theorem dL_law_1538 : decode cL_law 1538 = .ok (.iload 29, 2) := by decide +kernel
theorem dL_law_1540 : decode cL_law 1540 = .ok (.iload 10, 2) := by decide +kernel
theorem dL_law_1542 : decode cL_law 1542 = .ok (.if_icmp .ge 25, 3) := by decide +kernel
theorem dL_law_1545 : decode cL_law 1545 = .ok (.aload 28, 2) := by decide +kernel
theorem dL_law_1547 : decode cL_law 1547 = .ok (.iload 29, 2) := by decide +kernel
theorem dL_law_1549 : decode cL_law 1549 = .ok (.aload 22, 2) := by decide +kernel
theorem dL_law_1551 : decode cL_law 1551 = .ok (.bipush 6, 2) := by decide +kernel
theorem dL_law_1553 : decode cL_law 1553 = .ok (.iload 27, 2) := by decide +kernel
theorem dL_law_1555 : decode cL_law 1555 = .ok (.imul, 1) := by decide +kernel
theorem dL_law_1556 : decode cL_law 1556 = .ok (.iload 29, 2) := by decide +kernel
theorem dL_law_1558 : decode cL_law 1558 = .ok (.iadd, 1) := by decide +kernel
theorem dL_law_1559 : decode cL_law 1559 = .ok (.iaload, 1) := by decide +kernel
theorem dL_law_1560 : decode cL_law 1560 = .ok (.iastore, 1) := by decide +kernel
theorem dL_law_1561 : decode cL_law 1561 = .ok (.iinc 29 1, 3) := by decide +kernel
theorem dL_law_1564 : decode cL_law 1564 = .ok (.goto (-26), 3) := by decide +kernel
theorem dL_law_1567 : decode cL_law 1567 = .ok (.iload 26, 2) := by decide +kernel
theorem dL_law_1569 : decode cL_law 1569 = .ok (.ifCond .eq 45, 3) := by decide +kernel
theorem dL_law_1572 : decode cL_law 1572 = .ok (.aload_n 2, 1) := by decide +kernel
theorem dL_law_1573 : decode cL_law 1573 = .ok (.aload_n 3, 1) := by decide +kernel
theorem dL_law_1574 : decode cL_law 1574 = .ok (.aload 28, 2) := by decide +kernel
theorem dL_law_1576 : decode cL_law 1576 = .ok (.iload 10, 2) := by decide +kernel
theorem dL_law_1578 : decode cL_law 1578 = .ok (.iload 27, 2) := by decide +kernel
theorem dL_law_1580 : decode cL_law 1580 = .ok (.iload 25, 2) := by decide +kernel
theorem dL_law_1582 : decode cL_law 1582 = .ok (.bipush 10, 2) := by decide +kernel
theorem dL_law_1584 : decode cL_law 1584 = .ok (.idiv, 1) := by decide +kernel
theorem dL_law_1585 : decode cL_law 1585 = .ok (.if_icmp .ge 7, 3) := by decide +kernel
theorem dL_law_1588 : decode cL_law 1588 = .ok (.iconst 0, 1) := by decide +kernel
theorem dL_law_1589 : decode cL_law 1589 = .ok (.goto 8, 3) := by decide +kernel
theorem dL_law_1592 : decode cL_law 1592 = .ok (.iload 25, 2) := by decide +kernel
theorem dL_law_1594 : decode cL_law 1594 = .ok (.bipush 10, 2) := by decide +kernel
theorem dL_law_1596 : decode cL_law 1596 = .ok (.irem, 1) := by decide +kernel
theorem dL_law_1597 : decode cL_law 1597 = .ok (.invokestatic 77, 3) := by decide +kernel
theorem dL_law_1600 : decode cL_law 1600 = .ok (.iconst 2, 1) := by decide +kernel
theorem dL_law_1601 : decode cL_law 1601 = .ok (.iaload, 1) := by decide +kernel
theorem dL_law_1602 : decode cL_law 1602 = .ok (.aload 21, 2) := by decide +kernel
theorem dL_law_1604 : decode cL_law 1604 = .ok (.iload 27, 2) := by decide +kernel
theorem dL_law_1606 : decode cL_law 1606 = .ok (.iaload, 1) := by decide +kernel
theorem dL_law_1607 : decode cL_law 1607 = .ok (.if_icmp .ne 7, 3) := by decide +kernel
theorem dL_law_1610 : decode cL_law 1610 = .ok (.iconst 1, 1) := by decide +kernel
theorem dL_law_1611 : decode cL_law 1611 = .ok (.goto 4, 3) := by decide +kernel
theorem dL_law_1614 : decode cL_law 1614 = .ok (.iconst 0, 1) := by decide +kernel
theorem dL_law_1615 : decode cL_law 1615 = .ok (.istore 26, 2) := by decide +kernel
theorem dL_law_1617 : decode cL_law 1617 = .ok (.iinc 27 1, 3) := by decide +kernel
theorem dL_law_1620 : decode cL_law 1620 = .ok (.goto (-97), 3) := by decide +kernel
theorem dL_law_1623 : decode cL_law 1623 = .ok (.iload 23, 2) := by decide +kernel
theorem dL_law_1625 : decode cL_law 1625 = .ok (.iload 26, 2) := by decide +kernel
theorem dL_law_1627 : decode cL_law 1627 = .ok (.ifCond .eq 7, 3) := by decide +kernel
theorem dL_law_1630 : decode cL_law 1630 = .ok (.iconst 1, 1) := by decide +kernel
theorem dL_law_1631 : decode cL_law 1631 = .ok (.goto 4, 3) := by decide +kernel
theorem dL_law_1634 : decode cL_law 1634 = .ok (.iconst 0, 1) := by decide +kernel
theorem dL_law_1635 : decode cL_law 1635 = .ok (.iadd, 1) := by decide +kernel
theorem dL_law_1636 : decode cL_law 1636 = .ok (.istore 23, 2) := by decide +kernel
theorem dL_law_1638 : decode cL_law 1638 = .ok (.iload 26, 2) := by decide +kernel
theorem dL_law_1640 : decode cL_law 1640 = .ok (.ifCond .eq 8, 3) := by decide +kernel
theorem dL_law_1643 : decode cL_law 1643 = .ok (.iload 25, 2) := by decide +kernel
theorem dL_law_1645 : decode cL_law 1645 = .ok (.goto 5, 3) := by decide +kernel
theorem dL_law_1648 : decode cL_law 1648 = .ok (.iload 24, 2) := by decide +kernel
theorem dL_law_1650 : decode cL_law 1650 = .ok (.istore 24, 2) := by decide +kernel
theorem dL_law_1652 : decode cL_law 1652 = .ok (.iinc 25 (-1), 3) := by decide +kernel
theorem dL_law_1655 : decode cL_law 1655 = .ok (.goto (-143), 3) := by decide +kernel
theorem dL_law_1658 : decode cL_law 1658 = .ok (.aload_n 1, 1) := by decide +kernel
theorem dL_law_1659 : decode cL_law 1659 = .ok (.iconst 0, 1) := by decide +kernel
theorem dL_law_1660 : decode cL_law 1660 = .ok (.invokevirtual 118, 3) := by decide +kernel
theorem dL_law_1663 : decode cL_law 1663 = .ok (.iload 23, 2) := by decide +kernel
theorem dL_law_1665 : decode cL_law 1665 = .ok (.if_icmp .ne 48, 3) := by decide +kernel
theorem dL_law_1668 : decode cL_law 1668 = .ok (.aload_n 1, 1) := by decide +kernel
theorem dL_law_1669 : decode cL_law 1669 = .ok (.iconst 1, 1) := by decide +kernel
theorem dL_law_1670 : decode cL_law 1670 = .ok (.invokevirtual 118, 3) := by decide +kernel
theorem dL_law_1673 : decode cL_law 1673 = .ok (.iload 24, 2) := by decide +kernel
theorem dL_law_1675 : decode cL_law 1675 = .ok (.if_icmp .ne 38, 3) := by decide +kernel
theorem dL_law_1678 : decode cL_law 1678 = .ok (.iload 23, 2) := by decide +kernel
theorem dL_law_1680 : decode cL_law 1680 = .ok (.iconst 1, 1) := by decide +kernel
theorem dL_law_1681 : decode cL_law 1681 = .ok (.if_icmp .lt 32, 3) := by decide +kernel
theorem dL_law_1684 : decode cL_law 1684 = .ok (.aload_n 1, 1) := by decide +kernel
theorem dL_law_1685 : decode cL_law 1685 = .ok (.iconst 2, 1) := by decide +kernel
theorem dL_law_1686 : decode cL_law 1686 = .ok (.invokevirtual 118, 3) := by decide +kernel
theorem dL_law_1689 : decode cL_law 1689 = .ok (.bipush (-2), 2) := by decide +kernel
theorem dL_law_1691 : decode cL_law 1691 = .ok (.if_icmp .ne 22, 3) := by decide +kernel
theorem dL_law_1694 : decode cL_law 1694 = .ok (.aload_n 1, 1) := by decide +kernel
theorem dL_law_1695 : decode cL_law 1695 = .ok (.iconst 5, 1) := by decide +kernel
theorem dL_law_1696 : decode cL_law 1696 = .ok (.invokevirtual 113, 3) := by decide +kernel
theorem dL_law_1699 : decode cL_law 1699 = .ok (.iconst 4, 1) := by decide +kernel
theorem dL_law_1700 : decode cL_law 1700 = .ok (.if_icmp .ne 13, 3) := by decide +kernel
theorem dL_law_1703 : decode cL_law 1703 = .ok (.aload_n 1, 1) := by decide +kernel
theorem dL_law_1704 : decode cL_law 1704 = .ok (.iconst 5, 1) := by decide +kernel
theorem dL_law_1705 : decode cL_law 1705 = .ok (.invokevirtual 121, 3) := by decide +kernel
theorem dL_law_1708 : decode cL_law 1708 = .ok (.bipush (-2), 2) := by decide +kernel
theorem dL_law_1710 : decode cL_law 1710 = .ok (.if_icmp .eq 5, 3) := by decide +kernel
theorem dL_law_1713 : decode cL_law 1713 = .ok (.iconst 0, 1) := by decide +kernel
theorem dL_law_1714 : decode cL_law 1714 = .ok (.ireturn, 1) := by decide +kernel
theorem dL_law_1715 : decode cL_law 1715 = .ok (.aload_n 0, 1) := by decide +kernel
theorem dL_law_1716 : decode cL_law 1716 = .ok (.bipush 24, 2) := by decide +kernel
theorem dL_law_1718 : decode cL_law 1718 = .ok (.iload 5, 2) := by decide +kernel
theorem dL_law_1720 : decode cL_law 1720 = .ok (.iadd, 1) := by decide +kernel
theorem dL_law_1721 : decode cL_law 1721 = .ok (.invokestatic 9, 3) := by decide +kernel
theorem dL_law_1724 : decode cL_law 1724 = .ok (.iload 4, 2) := by decide +kernel
theorem dL_law_1726 : decode cL_law 1726 = .ok (.invokestatic 15, 3) := by decide +kernel
theorem dL_law_1729 : decode cL_law 1729 = .ok (.istore 25, 2) := by decide +kernel
theorem dL_law_1731 : decode cL_law 1731 = .ok (.aload_n 0, 1) := by decide +kernel
theorem dL_law_1732 : decode cL_law 1732 = .ok (.bipush 24, 2) := by decide +kernel
theorem dL_law_1734 : decode cL_law 1734 = .ok (.iload 5, 2) := by decide +kernel
theorem dL_law_1736 : decode cL_law 1736 = .ok (.iadd, 1) := by decide +kernel
theorem dL_law_1737 : decode cL_law 1737 = .ok (.invokestatic 9, 3) := by decide +kernel
theorem dL_law_1740 : decode cL_law 1740 = .ok (.iconst 3, 1) := by decide +kernel
theorem dL_law_1741 : decode cL_law 1741 = .ok (.ishr, 1) := by decide +kernel
theorem dL_law_1742 : decode cL_law 1742 = .ok (.aload_n 2, 1) := by decide +kernel
theorem dL_law_1743 : decode cL_law 1743 = .ok (.bipush 9, 2) := by decide +kernel
theorem dL_law_1745 : decode cL_law 1745 = .ok (.iload 25, 2) := by decide +kernel
theorem dL_law_1747 : decode cL_law 1747 = .ok (.iadd, 1) := by decide +kernel
theorem dL_law_1748 : decode cL_law 1748 = .ok (.iaload, 1) := by decide +kernel
theorem dL_law_1749 : decode cL_law 1749 = .ok (.invokestatic 15, 3) := by decide +kernel
theorem dL_law_1752 : decode cL_law 1752 = .ok (.istore 26, 2) := by decide +kernel
theorem dL_law_1754 : decode cL_law 1754 = .ok (.aload_n 1, 1) := by decide +kernel
theorem dL_law_1755 : decode cL_law 1755 = .ok (.iload 25, 2) := by decide +kernel
theorem dL_law_1757 : decode cL_law 1757 = .ok (.iload 26, 2) := by decide +kernel
theorem dL_law_1759 : decode cL_law 1759 = .ok (.iconst (-1), 1) := by decide +kernel
theorem dL_law_1760 : decode cL_law 1760 = .ok (.invokevirtual 124, 3) := by decide +kernel
theorem dL_law_1763 : decode cL_law 1763 = .ok (.istore 27, 2) := by decide +kernel
theorem dL_law_1765 : decode cL_law 1765 = .ok (.iconst 5, 1) := by decide +kernel
theorem dL_law_1766 : decode cL_law 1766 = .ok (.newarray .int, 2) := by decide +kernel
theorem dL_law_1768 : decode cL_law 1768 = .ok (.astore 28, 2) := by decide +kernel
theorem dL_law_1770 : decode cL_law 1770 = .ok (.iconst 0, 1) := by decide +kernel
theorem dL_law_1771 : decode cL_law 1771 = .ok (.istore 29, 2) := by decide +kernel
theorem dL_law_1773 : decode cL_law 1773 = .ok (.iload 29, 2) := by decide +kernel
theorem dL_law_1775 : decode cL_law 1775 = .ok (.iload 4, 2) := by decide +kernel
theorem dL_law_1777 : decode cL_law 1777 = .ok (.if_icmp .ge 24, 3) := by decide +kernel
theorem dL_law_1780 : decode cL_law 1780 = .ok (.aload 28, 2) := by decide +kernel
theorem dL_law_1782 : decode cL_law 1782 = .ok (.iload 29, 2) := by decide +kernel
theorem dL_law_1784 : decode cL_law 1784 = .ok (.aload_n 1, 1) := by decide +kernel
theorem dL_law_1785 : decode cL_law 1785 = .ok (.iload 25, 2) := by decide +kernel
theorem dL_law_1787 : decode cL_law 1787 = .ok (.iload 26, 2) := by decide +kernel
theorem dL_law_1789 : decode cL_law 1789 = .ok (.iload 29, 2) := by decide +kernel
theorem dL_law_1791 : decode cL_law 1791 = .ok (.invokevirtual 124, 3) := by decide +kernel
theorem dL_law_1794 : decode cL_law 1794 = .ok (.iastore, 1) := by decide +kernel
theorem dL_law_1795 : decode cL_law 1795 = .ok (.iinc 29 1, 3) := by decide +kernel
theorem dL_law_1798 : decode cL_law 1798 = .ok (.goto (-25), 3) := by decide +kernel
theorem dL_law_1801 : decode cL_law 1801 = .ok (.aload_n 1, 1) := by decide +kernel
theorem dL_law_1802 : decode cL_law 1802 = .ok (.iload 25, 2) := by decide +kernel
theorem dL_law_1804 : decode cL_law 1804 = .ok (.iload 26, 2) := by decide +kernel
theorem dL_law_1806 : decode cL_law 1806 = .ok (.iload 4, 2) := by decide +kernel
theorem dL_law_1808 : decode cL_law 1808 = .ok (.invokevirtual 124, 3) := by decide +kernel
theorem dL_law_1811 : decode cL_law 1811 = .ok (.iconst (-1), 1) := by decide +kernel
theorem dL_law_1812 : decode cL_law 1812 = .ok (.if_icmp .ne 30, 3) := by decide +kernel
theorem dL_law_1815 : decode cL_law 1815 = .ok (.aload_n 1, 1) := by decide +kernel
theorem dL_law_1816 : decode cL_law 1816 = .ok (.iload 25, 2) := by decide +kernel
theorem dL_law_1818 : decode cL_law 1818 = .ok (.aload_n 2, 1) := by decide +kernel
theorem dL_law_1819 : decode cL_law 1819 = .ok (.bipush 9, 2) := by decide +kernel
theorem dL_law_1821 : decode cL_law 1821 = .ok (.iload 25, 2) := by decide +kernel
theorem dL_law_1823 : decode cL_law 1823 = .ok (.iadd, 1) := by decide +kernel
theorem dL_law_1824 : decode cL_law 1824 = .ok (.iaload, 1) := by decide +kernel
theorem dL_law_1825 : decode cL_law 1825 = .ok (.iconst 0, 1) := by decide +kernel
theorem dL_law_1826 : decode cL_law 1826 = .ok (.invokevirtual 124, 3) := by decide +kernel
theorem dL_law_1829 : decode cL_law 1829 = .ok (.iconst (-1), 1) := by decide +kernel
theorem dL_law_1830 : decode cL_law 1830 = .ok (.if_icmp .ne 12, 3) := by decide +kernel
theorem dL_law_1833 : decode cL_law 1833 = .ok (.aload_n 1, 1) := by decide +kernel
theorem dL_law_1834 : decode cL_law 1834 = .ok (.iconst 5, 1) := by decide +kernel
theorem dL_law_1835 : decode cL_law 1835 = .ok (.invokevirtual 113, 3) := by decide +kernel
theorem dL_law_1838 : decode cL_law 1838 = .ok (.iconst 4, 1) := by decide +kernel
theorem dL_law_1839 : decode cL_law 1839 = .ok (.if_icmp .eq 5, 3) := by decide +kernel
theorem dL_law_1842 : decode cL_law 1842 = .ok (.iconst 0, 1) := by decide +kernel
theorem dL_law_1843 : decode cL_law 1843 = .ok (.ireturn, 1) := by decide +kernel
theorem dL_law_1844 : decode cL_law 1844 = .ok (.iconst 1, 1) := by decide +kernel
theorem dL_law_1845 : decode cL_law 1845 = .ok (.istore 29, 2) := by decide +kernel
theorem dL_law_1847 : decode cL_law 1847 = .ok (.iconst 2, 1) := by decide +kernel
theorem dL_law_1848 : decode cL_law 1848 = .ok (.istore 30, 2) := by decide +kernel
theorem dL_law_1850 : decode cL_law 1850 = .ok (.iload 30, 2) := by decide +kernel
theorem dL_law_1852 : decode cL_law 1852 = .ok (.iload 4, 2) := by decide +kernel
theorem dL_law_1854 : decode cL_law 1854 = .ok (.if_icmp .gt 16, 3) := by decide +kernel
theorem dL_law_1857 : decode cL_law 1857 = .ok (.iload 29, 2) := by decide +kernel
theorem dL_law_1859 : decode cL_law 1859 = .ok (.iload 30, 2) := by decide +kernel
theorem dL_law_1861 : decode cL_law 1861 = .ok (.imul, 1) := by decide +kernel
theorem dL_law_1862 : decode cL_law 1862 = .ok (.istore 29, 2) := by decide +kernel
theorem dL_law_1864 : decode cL_law 1864 = .ok (.iinc 30 1, 3) := by decide +kernel
theorem dL_law_1867 : decode cL_law 1867 = .ok (.goto (-17), 3) := by decide +kernel
theorem dL_law_1870 : decode cL_law 1870 = .ok (.iconst 5, 1) := by decide +kernel
theorem dL_law_1871 : decode cL_law 1871 = .ok (.newarray .int, 2) := by decide +kernel
theorem dL_law_1873 : decode cL_law 1873 = .ok (.astore 30, 2) := by decide +kernel
theorem dL_law_1875 : decode cL_law 1875 = .ok (.iconst 0, 1) := by decide +kernel
theorem dL_law_1876 : decode cL_law 1876 = .ok (.istore 31, 2) := by decide +kernel
theorem dL_law_1878 : decode cL_law 1878 = .ok (.iload 31, 2) := by decide +kernel
theorem dL_law_1880 : decode cL_law 1880 = .ok (.iload 4, 2) := by decide +kernel
theorem dL_law_1882 : decode cL_law 1882 = .ok (.if_icmp .ge 21, 3) := by decide +kernel
theorem dL_law_1885 : decode cL_law 1885 = .ok (.aload 30, 2) := by decide +kernel
theorem dL_law_1887 : decode cL_law 1887 = .ok (.iload 31, 2) := by decide +kernel
theorem dL_law_1889 : decode cL_law 1889 = .ok (.aload_n 2, 1) := by decide +kernel
theorem dL_law_1890 : decode cL_law 1890 = .ok (.bipush 14, 2) := by decide +kernel
theorem dL_law_1892 : decode cL_law 1892 = .ok (.iload 31, 2) := by decide +kernel
theorem dL_law_1894 : decode cL_law 1894 = .ok (.iadd, 1) := by decide +kernel
theorem dL_law_1895 : decode cL_law 1895 = .ok (.iaload, 1) := by decide +kernel
theorem dL_law_1896 : decode cL_law 1896 = .ok (.iastore, 1) := by decide +kernel
theorem dL_law_1897 : decode cL_law 1897 = .ok (.iinc 31 1, 3) := by decide +kernel
theorem dL_law_1900 : decode cL_law 1900 = .ok (.goto (-22), 3) := by decide +kernel
theorem dL_law_1903 : decode cL_law 1903 = .ok (.bipush 99, 2) := by decide +kernel
theorem dL_law_1905 : decode cL_law 1905 = .ok (.istore 31, 2) := by decide +kernel
theorem dL_law_1907 : decode cL_law 1907 = .ok (.iconst 5, 1) := by decide +kernel
theorem dL_law_1908 : decode cL_law 1908 = .ok (.newarray .int, 2) := by decide +kernel
theorem dL_law_1910 : decode cL_law 1910 = .ok (.astore 32, 2) := by decide +kernel
theorem dL_law_1912 : decode cL_law 1912 = .ok (.iload 29, 2) := by decide +kernel
theorem dL_law_1914 : decode cL_law 1914 = .ok (.iconst 1, 1) := by decide +kernel
theorem dL_law_1915 : decode cL_law 1915 = .ok (.isub, 1) := by decide +kernel
theorem dL_law_1916 : decode cL_law 1916 = .ok (.istore 33, 2) := by decide +kernel
theorem dL_law_1918 : decode cL_law 1918 = .ok (.iload 33, 2) := by decide +kernel
theorem dL_law_1920 : decode cL_law 1920 = .ok (.ifCond .lt 303, 3) := by decide +kernel
theorem dL_law_1923 : decode cL_law 1923 = .ok (.iload 33, 2) := by decide +kernel
theorem dL_law_1925 : decode cL_law 1925 = .ok (.istore 34, 2) := by decide +kernel
theorem dL_law_1927 : decode cL_law 1927 = .ok (.iload 29, 2) := by decide +kernel
theorem dL_law_1929 : decode cL_law 1929 = .ok (.istore 35, 2) := by decide +kernel
theorem dL_law_1931 : decode cL_law 1931 = .ok (.iconst 0, 1) := by decide +kernel
theorem dL_law_1932 : decode cL_law 1932 = .ok (.istore 36, 2) := by decide +kernel
theorem dL_law_1934 : decode cL_law 1934 = .ok (.iconst 0, 1) := by decide +kernel
theorem dL_law_1935 : decode cL_law 1935 = .ok (.istore 37, 2) := by decide +kernel
theorem dL_law_1937 : decode cL_law 1937 = .ok (.iconst 5, 1) := by decide +kernel
theorem dL_law_1938 : decode cL_law 1938 = .ok (.newarray .int, 2) := by decide +kernel
theorem dL_law_1940 : decode cL_law 1940 = .ok (.astore 38, 2) := by decide +kernel
theorem dL_law_1942 : decode cL_law 1942 = .ok (.iconst 0, 1) := by decide +kernel
theorem dL_law_1943 : decode cL_law 1943 = .ok (.istore 39, 2) := by decide +kernel
theorem dL_law_1945 : decode cL_law 1945 = .ok (.iload 39, 2) := by decide +kernel
theorem dL_law_1947 : decode cL_law 1947 = .ok (.iload 4, 2) := by decide +kernel
theorem dL_law_1949 : decode cL_law 1949 = .ok (.if_icmp .ge 195, 3) := by decide +kernel
theorem dL_law_1952 : decode cL_law 1952 = .ok (.iload 35, 2) := by decide +kernel
theorem dL_law_1954 : decode cL_law 1954 = .ok (.iload 4, 2) := by decide +kernel
theorem dL_law_1956 : decode cL_law 1956 = .ok (.iload 39, 2) := by decide +kernel
theorem dL_law_1958 : decode cL_law 1958 = .ok (.isub, 1) := by decide +kernel
theorem dL_law_1959 : decode cL_law 1959 = .ok (.idiv, 1) := by decide +kernel
theorem dL_law_1960 : decode cL_law 1960 = .ok (.istore 35, 2) := by decide +kernel
theorem dL_law_1962 : decode cL_law 1962 = .ok (.iload 34, 2) := by decide +kernel
theorem dL_law_1964 : decode cL_law 1964 = .ok (.iload 35, 2) := by decide +kernel
theorem dL_law_1966 : decode cL_law 1966 = .ok (.idiv, 1) := by decide +kernel
theorem dL_law_1967 : decode cL_law 1967 = .ok (.istore 40, 2) := by decide +kernel
theorem dL_law_1969 : decode cL_law 1969 = .ok (.iload 34, 2) := by decide +kernel
theorem dL_law_1971 : decode cL_law 1971 = .ok (.iload 35, 2) := by decide +kernel
theorem dL_law_1973 : decode cL_law 1973 = .ok (.irem, 1) := by decide +kernel
theorem dL_law_1974 : decode cL_law 1974 = .ok (.istore 34, 2) := by decide +kernel
theorem dL_law_1976 : decode cL_law 1976 = .ok (.iconst 0, 1) := by decide +kernel
theorem dL_law_1977 : decode cL_law 1977 = .ok (.istore 41, 2) := by decide +kernel
theorem dL_law_1979 : decode cL_law 1979 = .ok (.iload 36, 2) := by decide +kernel
theorem dL_law_1981 : decode cL_law 1981 = .ok (.iload 41, 2) := by decide +kernel
theorem dL_law_1983 : decode cL_law 1983 = .ok (.ishr, 1) := by decide +kernel
theorem dL_law_1984 : decode cL_law 1984 = .ok (.iconst 1, 1) := by decide +kernel
theorem dL_law_1985 : decode cL_law 1985 = .ok (.iand, 1) := by decide +kernel
theorem dL_law_1986 : decode cL_law 1986 = .ok (.iconst 1, 1) := by decide +kernel
theorem dL_law_1987 : decode cL_law 1987 = .ok (.if_icmp .eq 8, 3) := by decide +kernel
theorem dL_law_1990 : decode cL_law 1990 = .ok (.iload 40, 2) := by decide +kernel
theorem dL_law_1992 : decode cL_law 1992 = .ok (.ifCond .le 29, 3) := by decide +kernel
theorem dL_law_1995 : decode cL_law 1995 = .ok (.iload 40, 2) := by decide +kernel
theorem dL_law_1997 : decode cL_law 1997 = .ok (.iload 36, 2) := by decide +kernel
theorem dL_law_1999 : decode cL_law 1999 = .ok (.iload 41, 2) := by decide +kernel
theorem dL_law_2001 : decode cL_law 2001 = .ok (.ishr, 1) := by decide +kernel
theorem dL_law_2002 : decode cL_law 2002 = .ok (.iconst 1, 1) := by decide +kernel
theorem dL_law_2003 : decode cL_law 2003 = .ok (.iand, 1) := by decide +kernel
theorem dL_law_2004 : decode cL_law 2004 = .ok (.ifCond .ne 7, 3) := by decide +kernel
theorem dL_law_2007 : decode cL_law 2007 = .ok (.iconst 1, 1) := by decide +kernel
theorem dL_law_2008 : decode cL_law 2008 = .ok (.goto 4, 3) := by decide +kernel
theorem dL_law_2011 : decode cL_law 2011 = .ok (.iconst 0, 1) := by decide +kernel
theorem dL_law_2012 : decode cL_law 2012 = .ok (.isub, 1) := by decide +kernel
theorem dL_law_2013 : decode cL_law 2013 = .ok (.istore 40, 2) := by decide +kernel
theorem dL_law_2015 : decode cL_law 2015 = .ok (.iinc 41 1, 3) := by decide +kernel
theorem dL_law_2018 : decode cL_law 2018 = .ok (.goto (-39), 3) := by decide +kernel
theorem dL_law_2021 : decode cL_law 2021 = .ok (.iload 36, 2) := by decide +kernel
theorem dL_law_2023 : decode cL_law 2023 = .ok (.iconst 1, 1) := by decide +kernel
theorem dL_law_2024 : decode cL_law 2024 = .ok (.iload 41, 2) := by decide +kernel
theorem dL_law_2026 : decode cL_law 2026 = .ok (.ishl, 1) := by decide +kernel
theorem dL_law_2027 : decode cL_law 2027 = .ok (.ior, 1) := by decide +kernel
theorem dL_law_2028 : decode cL_law 2028 = .ok (.istore 36, 2) := by decide +kernel
theorem dL_law_2030 : decode cL_law 2030 = .ok (.aload 38, 2) := by decide +kernel
theorem dL_law_2032 : decode cL_law 2032 = .ok (.iload 39, 2) := by decide +kernel
theorem dL_law_2034 : decode cL_law 2034 = .ok (.iload 41, 2) := by decide +kernel
theorem dL_law_2036 : decode cL_law 2036 = .ok (.iastore, 1) := by decide +kernel
theorem dL_law_2037 : decode cL_law 2037 = .ok (.iload 37, 2) := by decide +kernel
theorem dL_law_2039 : decode cL_law 2039 = .ok (.iload 41, 2) := by decide +kernel
theorem dL_law_2041 : decode cL_law 2041 = .ok (.aload 30, 2) := by decide +kernel
theorem dL_law_2043 : decode cL_law 2043 = .ok (.iload 39, 2) := by decide +kernel
theorem dL_law_2045 : decode cL_law 2045 = .ok (.iaload, 1) := by decide +kernel
theorem dL_law_2046 : decode cL_law 2046 = .ok (.if_icmp .ne 7, 3) := by decide +kernel
theorem dL_law_2049 : decode cL_law 2049 = .ok (.iconst 0, 1) := by decide +kernel
theorem dL_law_2050 : decode cL_law 2050 = .ok (.goto 4, 3) := by decide +kernel
theorem dL_law_2053 : decode cL_law 2053 = .ok (.iconst 1, 1) := by decide +kernel
theorem dL_law_2054 : decode cL_law 2054 = .ok (.iadd, 1) := by decide +kernel
theorem dL_law_2055 : decode cL_law 2055 = .ok (.istore 37, 2) := by decide +kernel
theorem dL_law_2057 : decode cL_law 2057 = .ok (.aload_n 2, 1) := by decide +kernel
theorem dL_law_2058 : decode cL_law 2058 = .ok (.bipush 14, 2) := by decide +kernel
theorem dL_law_2060 : decode cL_law 2060 = .ok (.iload 39, 2) := by decide +kernel
theorem dL_law_2062 : decode cL_law 2062 = .ok (.iadd, 1) := by decide +kernel
theorem dL_law_2063 : decode cL_law 2063 = .ok (.iaload, 1) := by decide +kernel
theorem dL_law_2064 : decode cL_law 2064 = .ok (.istore 42, 2) := by decide +kernel
theorem dL_law_2066 : decode cL_law 2066 = .ok (.aload_n 1, 1) := by decide +kernel
theorem dL_law_2067 : decode cL_law 2067 = .ok (.iload 42, 2) := by decide +kernel
theorem dL_law_2069 : decode cL_law 2069 = .ok (.iload 41, 2) := by decide +kernel
theorem dL_law_2071 : decode cL_law 2071 = .ok (.invokevirtual 62, 3) := by decide +kernel
theorem dL_law_2074 : decode cL_law 2074 = .ok (.iconst 1, 1) := by decide +kernel
theorem dL_law_2075 : decode cL_law 2075 = .ok (.if_icmp .eq 5, 3) := by decide +kernel
theorem dL_law_2078 : decode cL_law 2078 = .ok (.iconst 0, 1) := by decide +kernel
theorem dL_law_2079 : decode cL_law 2079 = .ok (.ireturn, 1) := by decide +kernel
theorem dL_law_2080 : decode cL_law 2080 = .ok (.iconst 0, 1) := by decide +kernel
theorem dL_law_2081 : decode cL_law 2081 = .ok (.istore 43, 2) := by decide +kernel
theorem dL_law_2083 : decode cL_law 2083 = .ok (.iload 43, 2) := by decide +kernel
theorem dL_law_2085 : decode cL_law 2085 = .ok (.iload 4, 2) := by decide +kernel
theorem dL_law_2087 : decode cL_law 2087 = .ok (.if_icmp .ge 51, 3) := by decide +kernel
theorem dL_law_2090 : decode cL_law 2090 = .ok (.aload_n 2, 1) := by decide +kernel
theorem dL_law_2091 : decode cL_law 2091 = .ok (.bipush 14, 2) := by decide +kernel
theorem dL_law_2093 : decode cL_law 2093 = .ok (.iload 43, 2) := by decide +kernel
theorem dL_law_2095 : decode cL_law 2095 = .ok (.iadd, 1) := by decide +kernel
theorem dL_law_2096 : decode cL_law 2096 = .ok (.iaload, 1) := by decide +kernel
theorem dL_law_2097 : decode cL_law 2097 = .ok (.istore 44, 2) := by decide +kernel
theorem dL_law_2099 : decode cL_law 2099 = .ok (.aload_n 2, 1) := by decide +kernel
theorem dL_law_2100 : decode cL_law 2100 = .ok (.bipush 14, 2) := by decide +kernel
theorem dL_law_2102 : decode cL_law 2102 = .ok (.iload 43, 2) := by decide +kernel
theorem dL_law_2104 : decode cL_law 2104 = .ok (.iadd, 1) := by decide +kernel
theorem dL_law_2105 : decode cL_law 2105 = .ok (.iload 44, 2) := by decide +kernel
theorem dL_law_2107 : decode cL_law 2107 = .ok (.iload 42, 2) := by decide +kernel
theorem dL_law_2109 : decode cL_law 2109 = .ok (.if_icmp .ne 8, 3) := by decide +kernel
theorem dL_law_2112 : decode cL_law 2112 = .ok (.iload 41, 2) := by decide +kernel
theorem dL_law_2114 : decode cL_law 2114 = .ok (.goto 17, 3) := by decide +kernel
theorem dL_law_2117 : decode cL_law 2117 = .ok (.iload 44, 2) := by decide +kernel
theorem dL_law_2119 : decode cL_law 2119 = .ok (.iload 41, 2) := by decide +kernel
theorem dL_law_2121 : decode cL_law 2121 = .ok (.if_icmp .ne 8, 3) := by decide +kernel
theorem dL_law_2124 : decode cL_law 2124 = .ok (.iload 42, 2) := by decide +kernel
theorem dL_law_2126 : decode cL_law 2126 = .ok (.goto 5, 3) := by decide +kernel
theorem dL_law_2129 : decode cL_law 2129 = .ok (.iload 44, 2) := by decide +kernel
theorem dL_law_2131 : decode cL_law 2131 = .ok (.iastore, 1) := by decide +kernel
theorem dL_law_2132 : decode cL_law 2132 = .ok (.iinc 43 1, 3) := by decide +kernel
theorem dL_law_2135 : decode cL_law 2135 = .ok (.goto (-52), 3) := by decide +kernel
theorem dL_law_2138 : decode cL_law 2138 = .ok (.iinc 39 1, 3) := by decide +kernel
theorem dL_law_2141 : decode cL_law 2141 = .ok (.goto (-196), 3) := by decide +kernel
theorem dL_law_2144 : decode cL_law 2144 = .ok (.iconst 0, 1) := by decide +kernel
theorem dL_law_2145 : decode cL_law 2145 = .ok (.istore 39, 2) := by decide +kernel
theorem dL_law_2147 : decode cL_law 2147 = .ok (.iconst 0, 1) := by decide +kernel
theorem dL_law_2148 : decode cL_law 2148 = .ok (.istore 40, 2) := by decide +kernel
theorem dL_law_2150 : decode cL_law 2150 = .ok (.iload 40, 2) := by decide +kernel
theorem dL_law_2152 : decode cL_law 2152 = .ok (.iload 10, 2) := by decide +kernel
theorem dL_law_2154 : decode cL_law 2154 = .ok (.if_icmp .ge 43, 3) := by decide +kernel
theorem dL_law_2157 : decode cL_law 2157 = .ok (.iload 39, 2) := by decide +kernel
theorem dL_law_2159 : decode cL_law 2159 = .ok (.ifCond .ne 25, 3) := by decide +kernel
theorem dL_law_2162 : decode cL_law 2162 = .ok (.aload_n 2, 1) := by decide +kernel
theorem dL_law_2163 : decode cL_law 2163 = .ok (.iload 40, 2) := by decide +kernel
theorem dL_law_2165 : decode cL_law 2165 = .ok (.invokestatic 33, 3) := by decide +kernel
theorem dL_law_2168 : decode cL_law 2168 = .ok (.iload 25, 2) := by decide +kernel
theorem dL_law_2170 : decode cL_law 2170 = .ok (.if_icmp .ne 18, 3) := by decide +kernel
theorem dL_law_2173 : decode cL_law 2173 = .ok (.aload_n 1, 1) := by decide +kernel
theorem dL_law_2174 : decode cL_law 2174 = .ok (.iload 40, 2) := by decide +kernel
theorem dL_law_2176 : decode cL_law 2176 = .ok (.invokevirtual 127, 3) := by decide +kernel
theorem dL_law_2179 : decode cL_law 2179 = .ok (.iload 26, 2) := by decide +kernel
theorem dL_law_2181 : decode cL_law 2181 = .ok (.if_icmp .ne 7, 3) := by decide +kernel
theorem dL_law_2184 : decode cL_law 2184 = .ok (.iconst 1, 1) := by decide +kernel
theorem dL_law_2185 : decode cL_law 2185 = .ok (.goto 4, 3) := by decide +kernel
theorem dL_law_2188 : decode cL_law 2188 = .ok (.iconst 0, 1) := by decide +kernel
theorem dL_law_2189 : decode cL_law 2189 = .ok (.istore 39, 2) := by decide +kernel
theorem dL_law_2191 : decode cL_law 2191 = .ok (.iinc 40 1, 3) := by decide +kernel
theorem dL_law_2194 : decode cL_law 2194 = .ok (.goto (-44), 3) := by decide +kernel
theorem dL_law_2197 : decode cL_law 2197 = .ok (.iload 39, 2) := by decide +kernel
theorem dL_law_2199 : decode cL_law 2199 = .ok (.ifCond .eq 18, 3) := by decide +kernel
theorem dL_law_2202 : decode cL_law 2202 = .ok (.iload 37, 2) := by decide +kernel
theorem dL_law_2204 : decode cL_law 2204 = .ok (.iload 31, 2) := by decide +kernel
theorem dL_law_2206 : decode cL_law 2206 = .ok (.if_icmp .gt 11, 3) := by decide +kernel
theorem dL_law_2209 : decode cL_law 2209 = .ok (.iload 37, 2) := by decide +kernel
theorem dL_law_2211 : decode cL_law 2211 = .ok (.istore 31, 2) := by decide +kernel
theorem dL_law_2213 : decode cL_law 2213 = .ok (.aload 38, 2) := by decide +kernel
theorem dL_law_2215 : decode cL_law 2215 = .ok (.astore 32, 2) := by decide +kernel
theorem dL_law_2217 : decode cL_law 2217 = .ok (.iinc 33 (-1), 3) := by decide +kernel
theorem dL_law_2220 : decode cL_law 2220 = .ok (.goto (-302), 3) := by decide +kernel
theorem dL_law_2223 : decode cL_law 2223 = .ok (.iload 27, 2) := by decide +kernel
theorem dL_law_2225 : decode cL_law 2225 = .ok (.iload 31, 2) := by decide +kernel
theorem dL_law_2227 : decode cL_law 2227 = .ok (.bipush 99, 2) := by decide +kernel
theorem dL_law_2229 : decode cL_law 2229 = .ok (.if_icmp .ne 8, 3) := by decide +kernel
theorem dL_law_2232 : decode cL_law 2232 = .ok (.bipush (-9), 2) := by decide +kernel
theorem dL_law_2234 : decode cL_law 2234 = .ok (.goto 5, 3) := by decide +kernel
theorem dL_law_2237 : decode cL_law 2237 = .ok (.iload 31, 2) := by decide +kernel
theorem dL_law_2239 : decode cL_law 2239 = .ok (.if_icmp .ne 11, 3) := by decide +kernel
theorem dL_law_2242 : decode cL_law 2242 = .ok (.aload_n 1, 1) := by decide +kernel
theorem dL_law_2243 : decode cL_law 2243 = .ok (.iconst 5, 1) := by decide +kernel
theorem dL_law_2244 : decode cL_law 2244 = .ok (.invokevirtual 113, 3) := by decide +kernel
theorem dL_law_2247 : decode cL_law 2247 = .ok (.ifCond .eq 5, 3) := by decide +kernel
theorem dL_law_2250 : decode cL_law 2250 = .ok (.iconst 0, 1) := by decide +kernel
theorem dL_law_2251 : decode cL_law 2251 = .ok (.ireturn, 1) := by decide +kernel
theorem dL_law_2252 : decode cL_law 2252 = .ok (.iconst 0, 1) := by decide +kernel
theorem dL_law_2253 : decode cL_law 2253 = .ok (.istore 33, 2) := by decide +kernel
theorem dL_law_2255 : decode cL_law 2255 = .ok (.iload 33, 2) := by decide +kernel
theorem dL_law_2257 : decode cL_law 2257 = .ok (.iload 4, 2) := by decide +kernel
theorem dL_law_2259 : decode cL_law 2259 = .ok (.if_icmp .ge 36, 3) := by decide +kernel
theorem dL_law_2262 : decode cL_law 2262 = .ok (.aload 28, 2) := by decide +kernel
theorem dL_law_2264 : decode cL_law 2264 = .ok (.iload 33, 2) := by decide +kernel
theorem dL_law_2266 : decode cL_law 2266 = .ok (.iaload, 1) := by decide +kernel
theorem dL_law_2267 : decode cL_law 2267 = .ok (.iload 31, 2) := by decide +kernel
theorem dL_law_2269 : decode cL_law 2269 = .ok (.bipush 99, 2) := by decide +kernel
theorem dL_law_2271 : decode cL_law 2271 = .ok (.if_icmp .ne 8, 3) := by decide +kernel
theorem dL_law_2274 : decode cL_law 2274 = .ok (.bipush (-9), 2) := by decide +kernel
theorem dL_law_2276 : decode cL_law 2276 = .ok (.goto 8, 3) := by decide +kernel
theorem dL_law_2279 : decode cL_law 2279 = .ok (.aload 32, 2) := by decide +kernel
theorem dL_law_2281 : decode cL_law 2281 = .ok (.iload 33, 2) := by decide +kernel
theorem dL_law_2283 : decode cL_law 2283 = .ok (.iaload, 1) := by decide +kernel
theorem dL_law_2284 : decode cL_law 2284 = .ok (.if_icmp .eq 5, 3) := by decide +kernel
theorem dL_law_2287 : decode cL_law 2287 = .ok (.iconst 0, 1) := by decide +kernel
theorem dL_law_2288 : decode cL_law 2288 = .ok (.ireturn, 1) := by decide +kernel
theorem dL_law_2289 : decode cL_law 2289 = .ok (.iinc 33 1, 3) := by decide +kernel
theorem dL_law_2292 : decode cL_law 2292 = .ok (.goto (-37), 3) := by decide +kernel
theorem dL_law_2295 : decode cL_law 2295 = .ok (.iinc 5 1, 3) := by decide +kernel
theorem dL_law_2298 : decode cL_law 2298 = .ok (.goto (-2213), 3) := by decide +kernel
theorem dL_law_2301 : decode cL_law 2301 = .ok (.aload_n 1, 1) := by decide +kernel
theorem dL_law_2302 : decode cL_law 2302 = .ok (.iconst 5, 1) := by decide +kernel
theorem dL_law_2303 : decode cL_law 2303 = .ok (.iconst 0, 1) := by decide +kernel
theorem dL_law_2304 : decode cL_law 2304 = .ok (.invokevirtual 90, 3) := by decide +kernel
theorem dL_law_2307 : decode cL_law 2307 = .ok (.ldc2_w 88, 3) := by decide +kernel
theorem dL_law_2310 : decode cL_law 2310 = .ok (.lcmp, 1) := by decide +kernel
theorem dL_law_2311 : decode cL_law 2311 = .ok (.ifCond .ne 18, 3) := by decide +kernel
theorem dL_law_2314 : decode cL_law 2314 = .ok (.aload_n 1, 1) := by decide +kernel
theorem dL_law_2315 : decode cL_law 2315 = .ok (.iconst (-1), 1) := by decide +kernel
theorem dL_law_2316 : decode cL_law 2316 = .ok (.iconst 0, 1) := by decide +kernel
theorem dL_law_2317 : decode cL_law 2317 = .ok (.iconst 0, 1) := by decide +kernel
theorem dL_law_2318 : decode cL_law 2318 = .ok (.invokevirtual 124, 3) := by decide +kernel
theorem dL_law_2321 : decode cL_law 2321 = .ok (.iconst (-1), 1) := by decide +kernel
theorem dL_law_2322 : decode cL_law 2322 = .ok (.if_icmp .ne 7, 3) := by decide +kernel
theorem dL_law_2325 : decode cL_law 2325 = .ok (.iconst 1, 1) := by decide +kernel
theorem dL_law_2326 : decode cL_law 2326 = .ok (.goto 4, 3) := by decide +kernel
theorem dL_law_2329 : decode cL_law 2329 = .ok (.iconst 0, 1) := by decide +kernel
theorem dL_law_2330 : decode cL_law 2330 = .ok (.ireturn, 1) := by decide +kernel
