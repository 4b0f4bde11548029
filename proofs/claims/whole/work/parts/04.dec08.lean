theorem d_Mo_pack_60 : decode b_Mo_pack 60 = .ok (.putfield 191, 3) := by decide +kernel
theorem d_Mo_pack_63 : decode b_Mo_pack 63 = .ok (.iconst 0, 1) := by decide +kernel
theorem d_Mo_pack_64 : decode b_Mo_pack 64 = .ok (.istore_n 3, 1) := by decide +kernel
theorem d_Mo_pack_65 : decode b_Mo_pack 65 = .ok (.iconst 0, 1) := by decide +kernel
theorem d_Mo_pack_66 : decode b_Mo_pack 66 = .ok (.istore 4, 2) := by decide +kernel
theorem d_Mo_pack_68 : decode b_Mo_pack 68 = .ok (.iload 4, 2) := by decide +kernel
theorem d_Mo_pack_70 : decode b_Mo_pack 70 = .ok (.ifCond .ne 125, 3) := by decide +kernel
theorem d_Mo_pack_73 : decode b_Mo_pack 73 = .ok (.iload_n 3, 1) := by decide +kernel
theorem d_Mo_pack_74 : decode b_Mo_pack 74 = .ok (.sipush 4096, 3) := by decide +kernel
theorem d_Mo_pack_77 : decode b_Mo_pack 77 = .ok (.iadd, 1) := by decide +kernel
theorem d_Mo_pack_78 : decode b_Mo_pack 78 = .ok (.aload_n 0, 1) := by decide +kernel
theorem d_Mo_pack_79 : decode b_Mo_pack 79 = .ok (.getfield 65, 3) := by decide +kernel
theorem d_Mo_pack_82 : decode b_Mo_pack 82 = .ok (.if_icmp .ge 11, 3) := by decide +kernel
theorem d_Mo_pack_85 : decode b_Mo_pack 85 = .ok (.iload_n 3, 1) := by decide +kernel
theorem d_Mo_pack_86 : decode b_Mo_pack 86 = .ok (.sipush 4096, 3) := by decide +kernel
theorem d_Mo_pack_89 : decode b_Mo_pack 89 = .ok (.iadd, 1) := by decide +kernel
theorem d_Mo_pack_90 : decode b_Mo_pack 90 = .ok (.goto 7, 3) := by decide +kernel
theorem d_Mo_pack_93 : decode b_Mo_pack 93 = .ok (.aload_n 0, 1) := by decide +kernel
theorem d_Mo_pack_94 : decode b_Mo_pack 94 = .ok (.getfield 65, 3) := by decide +kernel
theorem d_Mo_pack_97 : decode b_Mo_pack 97 = .ok (.istore 5, 2) := by decide +kernel
theorem d_Mo_pack_99 : decode b_Mo_pack 99 = .ok (.iload 5, 2) := by decide +kernel
theorem d_Mo_pack_101 : decode b_Mo_pack 101 = .ok (.aload_n 0, 1) := by decide +kernel
theorem d_Mo_pack_102 : decode b_Mo_pack 102 = .ok (.getfield 65, 3) := by decide +kernel
theorem d_Mo_pack_105 : decode b_Mo_pack 105 = .ok (.if_icmp .ne 7, 3) := by decide +kernel
theorem d_Mo_pack_108 : decode b_Mo_pack 108 = .ok (.iconst 1, 1) := by decide +kernel
theorem d_Mo_pack_109 : decode b_Mo_pack 109 = .ok (.goto 4, 3) := by decide +kernel
theorem d_Mo_pack_112 : decode b_Mo_pack 112 = .ok (.iconst 0, 1) := by decide +kernel
theorem d_Mo_pack_113 : decode b_Mo_pack 113 = .ok (.istore 4, 2) := by decide +kernel
theorem d_Mo_pack_115 : decode b_Mo_pack 115 = .ok (.aload_n 0, 1) := by decide +kernel
theorem d_Mo_pack_116 : decode b_Mo_pack 116 = .ok (.iload_n 3, 1) := by decide +kernel
theorem d_Mo_pack_117 : decode b_Mo_pack 117 = .ok (.iload 5, 2) := by decide +kernel
theorem d_Mo_pack_119 : decode b_Mo_pack 119 = .ok (.iload_n 1, 1) := by decide +kernel
theorem d_Mo_pack_120 : decode b_Mo_pack 120 = .ok (.iload_n 2, 1) := by decide +kernel
theorem d_Mo_pack_121 : decode b_Mo_pack 121 = .ok (.invokevirtual 237, 3) := by decide +kernel
theorem d_Mo_pack_124 : decode b_Mo_pack 124 = .ok (.iconst 0, 1) := by decide +kernel
theorem d_Mo_pack_125 : decode b_Mo_pack 125 = .ok (.istore 6, 2) := by decide +kernel
theorem d_Mo_pack_127 : decode b_Mo_pack 127 = .ok (.iload 6, 2) := by decide +kernel
theorem d_Mo_pack_129 : decode b_Mo_pack 129 = .ok (.aload_n 0, 1) := by decide +kernel
theorem d_Mo_pack_130 : decode b_Mo_pack 130 = .ok (.getfield 164, 3) := by decide +kernel
theorem d_Mo_pack_133 : decode b_Mo_pack 133 = .ok (.if_icmp .ge 37, 3) := by decide +kernel
theorem d_Mo_pack_136 : decode b_Mo_pack 136 = .ok (.aload_n 0, 1) := by decide +kernel
theorem d_Mo_pack_137 : decode b_Mo_pack 137 = .ok (.getfield 28, 3) := by decide +kernel
theorem d_Mo_pack_140 : decode b_Mo_pack 140 = .ok (.iload 6, 2) := by decide +kernel
theorem d_Mo_pack_142 : decode b_Mo_pack 142 = .ok (.iaload, 1) := by decide +kernel
theorem d_Mo_pack_143 : decode b_Mo_pack 143 = .ok (.ifCond .le 7, 3) := by decide +kernel
theorem d_Mo_pack_146 : decode b_Mo_pack 146 = .ok (.iconst 4, 1) := by decide +kernel
theorem d_Mo_pack_147 : decode b_Mo_pack 147 = .ok (.goto 4, 3) := by decide +kernel
theorem d_Mo_pack_150 : decode b_Mo_pack 150 = .ok (.iconst 5, 1) := by decide +kernel
theorem d_Mo_pack_151 : decode b_Mo_pack 151 = .ok (.istore 7, 2) := by decide +kernel
theorem d_Mo_pack_153 : decode b_Mo_pack 153 = .ok (.aload_n 0, 1) := by decide +kernel
theorem d_Mo_pack_154 : decode b_Mo_pack 154 = .ok (.getfield 16, 3) := by decide +kernel
theorem d_Mo_pack_157 : decode b_Mo_pack 157 = .ok (.iload 7, 2) := by decide +kernel
theorem d_Mo_pack_159 : decode b_Mo_pack 159 = .ok (.dup2, 1) := by decide +kernel
theorem d_Mo_pack_160 : decode b_Mo_pack 160 = .ok (.iaload, 1) := by decide +kernel
theorem d_Mo_pack_161 : decode b_Mo_pack 161 = .ok (.iconst 1, 1) := by decide +kernel
theorem d_Mo_pack_162 : decode b_Mo_pack 162 = .ok (.iadd, 1) := by decide +kernel
theorem d_Mo_pack_163 : decode b_Mo_pack 163 = .ok (.iastore, 1) := by decide +kernel
theorem d_Mo_pack_164 : decode b_Mo_pack 164 = .ok (.iinc 6 1, 3) := by decide +kernel
theorem d_Mo_pack_167 : decode b_Mo_pack 167 = .ok (.goto (-40), 3) := by decide +kernel
theorem d_Mo_pack_170 : decode b_Mo_pack 170 = .ok (.aload_n 0, 1) := by decide +kernel
theorem d_Mo_pack_171 : decode b_Mo_pack 171 = .ok (.getfield 16, 3) := by decide +kernel
theorem d_Mo_pack_174 : decode b_Mo_pack 174 = .ok (.iconst 0, 1) := by decide +kernel
theorem d_Mo_pack_175 : decode b_Mo_pack 175 = .ok (.dup2, 1) := by decide +kernel
theorem d_Mo_pack_176 : decode b_Mo_pack 176 = .ok (.iaload, 1) := by decide +kernel
theorem d_Mo_pack_177 : decode b_Mo_pack 177 = .ok (.iconst 1, 1) := by decide +kernel
theorem d_Mo_pack_178 : decode b_Mo_pack 178 = .ok (.iadd, 1) := by decide +kernel
theorem d_Mo_pack_179 : decode b_Mo_pack 179 = .ok (.iastore, 1) := by decide +kernel
theorem d_Mo_pack_180 : decode b_Mo_pack 180 = .ok (.aload_n 0, 1) := by decide +kernel
theorem d_Mo_pack_181 : decode b_Mo_pack 181 = .ok (.iload_n 3, 1) := by decide +kernel
theorem d_Mo_pack_182 : decode b_Mo_pack 182 = .ok (.iload 5, 2) := by decide +kernel
theorem d_Mo_pack_184 : decode b_Mo_pack 184 = .ok (.iload 4, 2) := by decide +kernel
theorem d_Mo_pack_186 : decode b_Mo_pack 186 = .ok (.invokevirtual 241, 3) := by decide +kernel
theorem d_Mo_pack_189 : decode b_Mo_pack 189 = .ok (.iload 5, 2) := by decide +kernel
theorem d_Mo_pack_191 : decode b_Mo_pack 191 = .ok (.istore_n 3, 1) := by decide +kernel
theorem d_Mo_pack_192 : decode b_Mo_pack 192 = .ok (.goto (-124), 3) := by decide +kernel
theorem d_Mo_pack_195 : decode b_Mo_pack 195 = .ok (.aload_n 0, 1) := by decide +kernel
theorem d_Mo_pack_196 : decode b_Mo_pack 196 = .ok (.getfield 191, 3) := by decide +kernel
theorem d_Mo_pack_199 : decode b_Mo_pack 199 = .ok (.bipush 8, 2) := by decide +kernel
theorem d_Mo_pack_201 : decode b_Mo_pack 201 = .ok (.irem, 1) := by decide +kernel
theorem d_Mo_pack_202 : decode b_Mo_pack 202 = .ok (.ifCond .eq 11, 3) := by decide +kernel
theorem d_Mo_pack_205 : decode b_Mo_pack 205 = .ok (.aload_n 0, 1) := by decide +kernel
theorem d_Mo_pack_206 : decode b_Mo_pack 206 = .ok (.iconst 0, 1) := by decide +kernel
theorem d_Mo_pack_207 : decode b_Mo_pack 207 = .ok (.invokevirtual 194, 3) := by decide +kernel
theorem d_Mo_pack_210 : decode b_Mo_pack 210 = .ok (.goto (-15), 3) := by decide +kernel
theorem d_Mo_pack_213 : decode b_Mo_pack 213 = .ok (.aload_n 0, 1) := by decide +kernel
theorem d_Mo_pack_214 : decode b_Mo_pack 214 = .ok (.getfield 7, 3) := by decide +kernel
theorem d_Mo_pack_217 : decode b_Mo_pack 217 = .ok (.aload_n 0, 1) := by decide +kernel
theorem d_Mo_pack_218 : decode b_Mo_pack 218 = .ok (.getfield 65, 3) := by decide +kernel
theorem d_Mo_pack_221 : decode b_Mo_pack 221 = .ok (.invokestatic 159, 3) := by decide +kernel
theorem d_Mo_pack_224 : decode b_Mo_pack 224 = .ok (.lstore 5, 2) := by decide +kernel
theorem d_Mo_pack_226 : decode b_Mo_pack 226 = .ok (.bipush 24, 2) := by decide +kernel
theorem d_Mo_pack_228 : decode b_Mo_pack 228 = .ok (.istore 7, 2) := by decide +kernel
theorem d_Mo_pack_230 : decode b_Mo_pack 230 = .ok (.iload 7, 2) := by decide +kernel
theorem d_Mo_pack_232 : decode b_Mo_pack 232 = .ok (.ifCond .lt 25, 3) := by decide +kernel
theorem d_Mo_pack_235 : decode b_Mo_pack 235 = .ok (.aload_n 0, 1) := by decide +kernel
theorem d_Mo_pack_236 : decode b_Mo_pack 236 = .ok (.lload 5, 2) := by decide +kernel
theorem d_Mo_pack_238 : decode b_Mo_pack 238 = .ok (.iload 7, 2) := by decide +kernel
theorem d_Mo_pack_240 : decode b_Mo_pack 240 = .ok (.lshr, 1) := by decide +kernel
theorem d_Mo_pack_241 : decode b_Mo_pack 241 = .ok (.ldc2_w 69, 3) := by decide +kernel
theorem d_Mo_pack_244 : decode b_Mo_pack 244 = .ok (.land, 1) := by decide +kernel
theorem d_Mo_pack_245 : decode b_Mo_pack 245 = .ok (.l2i, 1) := by decide +kernel
theorem d_Mo_pack_246 : decode b_Mo_pack 246 = .ok (.bipush 8, 2) := by decide +kernel
theorem d_Mo_pack_248 : decode b_Mo_pack 248 = .ok (.invokevirtual 204, 3) := by decide +kernel
theorem d_Mo_pack_251 : decode b_Mo_pack 251 = .ok (.iinc 7 (-8), 3) := by decide +kernel
theorem d_Mo_pack_254 : decode b_Mo_pack 254 = .ok (.goto (-24), 3) := by decide +kernel
theorem d_Mo_pack_257 : decode b_Mo_pack 257 = .ok (.aload_n 0, 1) := by decide +kernel
theorem d_Mo_pack_258 : decode b_Mo_pack 258 = .ok (.getfield 72, 3) := by decide +kernel
theorem d_Mo_pack_261 : decode b_Mo_pack 261 = .ok (.ireturn, 1) := by decide +kernel
theorem d_Mo_told_0 : decode b_Mo_told 0 = .ok (.iload_n 1, 1) := by decide +kernel
theorem d_Mo_told_1 : decode b_Mo_told 1 = .ok (.ifCond .lt 9, 3) := by decide +kernel
theorem d_Mo_told_4 : decode b_Mo_told 4 = .ok (.iload_n 1, 1) := by decide +kernel
theorem d_Mo_told_5 : decode b_Mo_told 5 = .ok (.bipush 7, 2) := by decide +kernel
theorem d_Mo_told_7 : decode b_Mo_told 7 = .ok (.if_icmp .le 8, 3) := by decide +kernel
theorem d_Mo_told_10 : decode b_Mo_told 10 = .ok (.bipush (-2), 2) := by decide +kernel
theorem d_Mo_told_12 : decode b_Mo_told 12 = .ok (.goto 9, 3) := by decide +kernel
theorem d_Mo_told_15 : decode b_Mo_told 15 = .ok (.aload_n 0, 1) := by decide +kernel
theorem d_Mo_told_16 : decode b_Mo_told 16 = .ok (.getfield 16, 3) := by decide +kernel
theorem d_Mo_told_19 : decode b_Mo_told 19 = .ok (.iload_n 1, 1) := by decide +kernel
theorem d_Mo_told_20 : decode b_Mo_told 20 = .ok (.iaload, 1) := by decide +kernel
theorem d_Mo_told_21 : decode b_Mo_told 21 = .ok (.ireturn, 1) := by decide +kernel
theorem d_Mo_length_0 : decode b_Mo_length 0 = .ok (.iload_n 1, 1) := by decide +kernel
theorem d_Mo_length_1 : decode b_Mo_length 1 = .ok (.ifCond .lt 28, 3) := by decide +kernel
theorem d_Mo_length_4 : decode b_Mo_length 4 = .ok (.iload_n 1, 1) := by decide +kernel
theorem d_Mo_length_5 : decode b_Mo_length 5 = .ok (.iconst 1, 1) := by decide +kernel
theorem d_Mo_length_6 : decode b_Mo_length 6 = .ok (.if_icmp .gt 23, 3) := by decide +kernel
theorem d_Mo_length_9 : decode b_Mo_length 9 = .ok (.iload_n 2, 1) := by decide +kernel
theorem d_Mo_length_10 : decode b_Mo_length 10 = .ok (.ifCond .lt 19, 3) := by decide +kernel
theorem d_Mo_length_13 : decode b_Mo_length 13 = .ok (.iload_n 2, 1) := by decide +kernel
theorem d_Mo_length_14 : decode b_Mo_length 14 = .ok (.iload_n 1, 1) := by decide +kernel
theorem d_Mo_length_15 : decode b_Mo_length 15 = .ok (.ifCond .ne 9, 3) := by decide +kernel
theorem d_Mo_length_18 : decode b_Mo_length 18 = .ok (.sipush 285, 3) := by decide +kernel
theorem d_Mo_length_21 : decode b_Mo_length 21 = .ok (.goto 5, 3) := by decide +kernel
theorem d_Mo_length_24 : decode b_Mo_length 24 = .ok (.bipush 29, 2) := by decide +kernel
theorem d_Mo_length_26 : decode b_Mo_length 26 = .ok (.if_icmp .le 6, 3) := by decide +kernel
theorem d_Mo_length_29 : decode b_Mo_length 29 = .ok (.bipush (-2), 2) := by decide +kernel
theorem d_Mo_length_31 : decode b_Mo_length 31 = .ok (.ireturn, 1) := by decide +kernel
theorem d_Mo_length_32 : decode b_Mo_length 32 = .ok (.aload_n 0, 1) := by decide +kernel
theorem d_Mo_length_33 : decode b_Mo_length 33 = .ok (.getfield 62, 3) := by decide +kernel
theorem d_Mo_length_36 : decode b_Mo_length 36 = .ok (.sipush 288, 3) := by decide +kernel
theorem d_Mo_length_39 : decode b_Mo_length 39 = .ok (.iload_n 1, 1) := by decide +kernel
theorem d_Mo_length_40 : decode b_Mo_length 40 = .ok (.imul, 1) := by decide +kernel
theorem d_Mo_length_41 : decode b_Mo_length 41 = .ok (.iload_n 2, 1) := by decide +kernel
theorem d_Mo_length_42 : decode b_Mo_length 42 = .ok (.iadd, 1) := by decide +kernel
theorem d_Mo_length_43 : decode b_Mo_length 43 = .ok (.iaload, 1) := by decide +kernel
theorem d_Mo_length_44 : decode b_Mo_length 44 = .ok (.ireturn, 1) := by decide +kernel
